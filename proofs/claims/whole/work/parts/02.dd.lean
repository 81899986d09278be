theorem dX6_days_0 : decode cX6_days 0 = .ok (.aload_n 0, 1) := by decide +kernel
theorem dX6_days_1 : decode cX6_days 1 = .ok (.iconst 0, 1) := by decide +kernel
theorem dX6_days_2 : decode cX6_days 2 = .ok (.putfield 46, 3) := by decide +kernel
theorem dX6_days_5 : decode cX6_days 5 = .ok (.iload_n 1, 1) := by decide +kernel
theorem dX6_days_6 : decode cX6_days 6 = .ok (.invokestatic 62, 3) := by decide +kernel
theorem dX6_days_9 : decode cX6_days 9 = .ok (.ifCond .ne 5, 3) := by decide +kernel
theorem dX6_days_12 : decode cX6_days 12 = .ok (.iconst (-1), 1) := by decide +kernel
theorem dX6_days_13 : decode cX6_days 13 = .ok (.ireturn, 1) := by decide +kernel
theorem dX6_days_14 : decode cX6_days 14 = .ok (.iload_n 2, 1) := by decide +kernel
theorem dX6_days_15 : decode cX6_days 15 = .ok (.invokestatic 66, 3) := by decide +kernel
theorem dX6_days_18 : decode cX6_days 18 = .ok (.ifCond .eq 24, 3) := by decide +kernel
theorem dX6_days_21 : decode cX6_days 21 = .ok (.iload 4, 2) := by decide +kernel
theorem dX6_days_23 : decode cX6_days 23 = .ok (.iconst 0, 1) := by decide +kernel
theorem dX6_days_24 : decode cX6_days 24 = .ok (.bipush 20, 2) := by decide +kernel
theorem dX6_days_26 : decode cX6_days 26 = .ok (.invokestatic 52, 3) := by decide +kernel
theorem dX6_days_29 : decode cX6_days 29 = .ok (.ifCond .eq 13, 3) := by decide +kernel
theorem dX6_days_32 : decode cX6_days 32 = .ok (.iload 5, 2) := by decide +kernel
theorem dX6_days_34 : decode cX6_days 34 = .ok (.iconst 0, 1) := by decide +kernel
theorem dX6_days_35 : decode cX6_days 35 = .ok (.iconst 4, 1) := by decide +kernel
theorem dX6_days_36 : decode cX6_days 36 = .ok (.invokestatic 52, 3) := by decide +kernel
theorem dX6_days_39 : decode cX6_days 39 = .ok (.ifCond .ne 6, 3) := by decide +kernel
theorem dX6_days_42 : decode cX6_days 42 = .ok (.bipush (-2), 2) := by decide +kernel
theorem dX6_days_44 : decode cX6_days 44 = .ok (.ireturn, 1) := by decide +kernel
theorem dX6_days_45 : decode cX6_days 45 = .ok (.aload_n 0, 1) := by decide +kernel
theorem dX6_days_46 : decode cX6_days 46 = .ok (.iload_n 1, 1) := by decide +kernel
theorem dX6_days_47 : decode cX6_days 47 = .ok (.iload_n 2, 1) := by decide +kernel
theorem dX6_days_48 : decode cX6_days 48 = .ok (.iload_n 3, 1) := by decide +kernel
theorem dX6_days_49 : decode cX6_days 49 = .ok (.iconst 2, 1) := by decide +kernel
theorem dX6_days_50 : decode cX6_days 50 = .ok (.iload 4, 2) := by decide +kernel
theorem dX6_days_52 : decode cX6_days 52 = .ok (.imul, 1) := by decide +kernel
theorem dX6_days_53 : decode cX6_days 53 = .ok (.invokevirtual 69, 3) := by decide +kernel
theorem dX6_days_56 : decode cX6_days 56 = .ok (.istore 6, 2) := by decide +kernel
theorem dX6_days_58 : decode cX6_days 58 = .ok (.iload 6, 2) := by decide +kernel
theorem dX6_days_60 : decode cX6_days 60 = .ok (.ifCond .eq 10, 3) := by decide +kernel
theorem dX6_days_63 : decode cX6_days 63 = .ok (.aload_n 0, 1) := by decide +kernel
theorem dX6_days_64 : decode cX6_days 64 = .ok (.iload 6, 2) := by decide +kernel
theorem dX6_days_66 : decode cX6_days 66 = .ok (.invokevirtual 73, 3) := by decide +kernel
theorem dX6_days_69 : decode cX6_days 69 = .ok (.ireturn, 1) := by decide +kernel
theorem dX6_days_70 : decode cX6_days 70 = .ok (.aload_n 0, 1) := by decide +kernel
theorem dX6_days_71 : decode cX6_days 71 = .ok (.getfield 56, 3) := by decide +kernel
theorem dX6_days_74 : decode cX6_days 74 = .ok (.ifCond .ne 6, 3) := by decide +kernel
theorem dX6_days_77 : decode cX6_days 77 = .ok (.bipush (-3), 2) := by decide +kernel
theorem dX6_days_79 : decode cX6_days 79 = .ok (.ireturn, 1) := by decide +kernel
theorem dX6_days_80 : decode cX6_days 80 = .ok (.bipush 60, 2) := by decide +kernel
theorem dX6_days_82 : decode cX6_days 82 = .ok (.iload_n 1, 1) := by decide +kernel
theorem dX6_days_83 : decode cX6_days 83 = .ok (.imul, 1) := by decide +kernel
theorem dX6_days_84 : decode cX6_days 84 = .ok (.iload_n 3, 1) := by decide +kernel
theorem dX6_days_85 : decode cX6_days 85 = .ok (.iadd, 1) := by decide +kernel
theorem dX6_days_86 : decode cX6_days 86 = .ok (.istore 7, 2) := by decide +kernel
theorem dX6_days_88 : decode cX6_days 88 = .ok (.iconst 0, 1) := by decide +kernel
theorem dX6_days_89 : decode cX6_days 89 = .ok (.istore 8, 2) := by decide +kernel
theorem dX6_days_91 : decode cX6_days 91 = .ok (.iload 8, 2) := by decide +kernel
theorem dX6_days_93 : decode cX6_days 93 = .ok (.iload 4, 2) := by decide +kernel
theorem dX6_days_95 : decode cX6_days 95 = .ok (.if_icmp .ge 44, 3) := by decide +kernel
theorem dX6_days_98 : decode cX6_days 98 = .ok (.aload_n 0, 1) := by decide +kernel
theorem dX6_days_99 : decode cX6_days 99 = .ok (.getfield 16, 3) := by decide +kernel
theorem dX6_days_102 : decode cX6_days 102 = .ok (.iload 7, 2) := by decide +kernel
theorem dX6_days_104 : decode cX6_days 104 = .ok (.iconst 2, 1) := by decide +kernel
theorem dX6_days_105 : decode cX6_days 105 = .ok (.iload 8, 2) := by decide +kernel
theorem dX6_days_107 : decode cX6_days 107 = .ok (.imul, 1) := by decide +kernel
theorem dX6_days_108 : decode cX6_days 108 = .ok (.iadd, 1) := by decide +kernel
theorem dX6_days_109 : decode cX6_days 109 = .ok (.iaload, 1) := by decide +kernel
theorem dX6_days_110 : decode cX6_days 110 = .ok (.aload_n 0, 1) := by decide +kernel
theorem dX6_days_111 : decode cX6_days 111 = .ok (.getfield 16, 3) := by decide +kernel
theorem dX6_days_114 : decode cX6_days 114 = .ok (.iload 7, 2) := by decide +kernel
theorem dX6_days_116 : decode cX6_days 116 = .ok (.iconst 2, 1) := by decide +kernel
theorem dX6_days_117 : decode cX6_days 117 = .ok (.iload 8, 2) := by decide +kernel
theorem dX6_days_119 : decode cX6_days 119 = .ok (.imul, 1) := by decide +kernel
theorem dX6_days_120 : decode cX6_days 120 = .ok (.iadd, 1) := by decide +kernel
theorem dX6_days_121 : decode cX6_days 121 = .ok (.iconst 1, 1) := by decide +kernel
theorem dX6_days_122 : decode cX6_days 122 = .ok (.iadd, 1) := by decide +kernel
theorem dX6_days_123 : decode cX6_days 123 = .ok (.iaload, 1) := by decide +kernel
theorem dX6_days_124 : decode cX6_days 124 = .ok (.invokestatic 176, 3) := by decide +kernel
theorem dX6_days_127 : decode cX6_days 127 = .ok (.ifCond .ne 6, 3) := by decide +kernel
theorem dX6_days_130 : decode cX6_days 130 = .ok (.bipush (-2), 2) := by decide +kernel
theorem dX6_days_132 : decode cX6_days 132 = .ok (.ireturn, 1) := by decide +kernel
theorem dX6_days_133 : decode cX6_days 133 = .ok (.iinc 8 1, 3) := by decide +kernel
theorem dX6_days_136 : decode cX6_days 136 = .ok (.goto (-45), 3) := by decide +kernel
theorem dX6_days_139 : decode cX6_days 139 = .ok (.aload_n 0, 1) := by decide +kernel
theorem dX6_days_140 : decode cX6_days 140 = .ok (.invokevirtual 179, 3) := by decide +kernel
theorem dX6_days_143 : decode cX6_days 143 = .ok (.aload_n 0, 1) := by decide +kernel
theorem dX6_days_144 : decode cX6_days 144 = .ok (.iload 7, 2) := by decide +kernel
theorem dX6_days_146 : decode cX6_days 146 = .ok (.iload 4, 2) := by decide +kernel
theorem dX6_days_148 : decode cX6_days 148 = .ok (.invokevirtual 182, 3) := by decide +kernel
theorem dX6_days_151 : decode cX6_days 151 = .ok (.istore 8, 2) := by decide +kernel
theorem dX6_days_153 : decode cX6_days 153 = .ok (.aload_n 0, 1) := by decide +kernel
theorem dX6_days_154 : decode cX6_days 154 = .ok (.iload 5, 2) := by decide +kernel
theorem dX6_days_156 : decode cX6_days 156 = .ok (.invokevirtual 185, 3) := by decide +kernel
theorem dX6_days_159 : decode cX6_days 159 = .ok (.istore 9, 2) := by decide +kernel
theorem dX6_days_161 : decode cX6_days 161 = .ok (.aload_n 0, 1) := by decide +kernel
theorem dX6_days_162 : decode cX6_days 162 = .ok (.invokevirtual 188, 3) := by decide +kernel
theorem dX6_days_165 : decode cX6_days 165 = .ok (.iload 5, 2) := by decide +kernel
theorem dX6_days_167 : decode cX6_days 167 = .ok (.iconst 1, 1) := by decide +kernel
theorem dX6_days_168 : decode cX6_days 168 = .ok (.if_icmp .ne 8, 3) := by decide +kernel
theorem dX6_days_171 : decode cX6_days 171 = .ok (.iload 8, 2) := by decide +kernel
theorem dX6_days_173 : decode cX6_days 173 = .ok (.goto 20, 3) := by decide +kernel
theorem dX6_days_176 : decode cX6_days 176 = .ok (.iload 8, 2) := by decide +kernel
theorem dX6_days_178 : decode cX6_days 178 = .ok (.bipush (-9), 2) := by decide +kernel
theorem dX6_days_180 : decode cX6_days 180 = .ok (.if_icmp .ne 8, 3) := by decide +kernel
theorem dX6_days_183 : decode cX6_days 183 = .ok (.iload 9, 2) := by decide +kernel
theorem dX6_days_185 : decode cX6_days 185 = .ok (.goto 8, 3) := by decide +kernel
theorem dX6_days_188 : decode cX6_days 188 = .ok (.bipush (-100), 2) := by decide +kernel
theorem dX6_days_190 : decode cX6_days 190 = .ok (.iload 8, 2) := by decide +kernel
theorem dX6_days_192 : decode cX6_days 192 = .ok (.isub, 1) := by decide +kernel
theorem dX6_days_193 : decode cX6_days 193 = .ok (.ireturn, 1) := by decide +kernel
set_option maxRecDepth 20000 in
theorem ggX6_tellDays_X6_orderAsIs : GoodIn wsX6_tellDays wsX6_orderAsIs := goodIn_r _ [9, 3, 10, 41, 42, 43, 44, 45, 46, 47, 48, 49, 50, 51, 52, 53, 54, 55, 56, 57, 58, 59, 60, 61, 62, 63, 64, 65, 66] (by decide +kernel) (by decide +kernel)
set_option maxRecDepth 20000 in
theorem gX6_tellDays_X6_orderAsIs : GoodIn wsX6_tellDays (wsV RX6 128 RX6 yX6_orderAsIs wsX6_orderAsIs) := goodIn_app (goodIn_of _ (by decide +kernel)) ggX6_tellDays_X6_orderAsIs
set_option maxRecDepth 20000 in
theorem ggX6_tellDays_X6_counselBy : GoodIn wsX6_tellDays wsX6_counselBy := goodIn_r _ [14, 3, 10, 15, 16, 17, 18, 8, 19, 20, 21, 22, 23, 24, 25, 26, 27, 28, 29, 30, 31, 32, 33, 34, 35, 36, 41, 42, 43, 44, 45, 46, 47, 48, 49, 50, 51, 52, 53, 54, 55, 56, 57, 58, 59, 60, 61, 62, 63, 64, 65, 66] (by decide +kernel) (by decide +kernel)
set_option maxRecDepth 20000 in
theorem gX6_tellDays_X6_counselBy : GoodIn wsX6_tellDays (wsV RX6 144 RX6 yX6_counselBy wsX6_counselBy) := goodIn_app (goodIn_of _ (by decide +kernel)) ggX6_tellDays_X6_counselBy
set_option maxRecDepth 20000 in
theorem ggX6_tellDays_X6_heardNow : GoodIn wsX6_tellDays wsX6_heardNow := goodIn_r _ [40, 1, 2, 5, 6, 7, 8, 9, 3, 10, 16, 17, 18, 19, 20, 21, 22, 23, 24, 25, 26, 27, 28, 29, 30, 31, 32, 41, 42, 43, 44, 45, 46, 47, 48, 49, 50, 51, 52, 53, 54, 55, 56, 57, 58, 59, 60, 61, 62, 63, 64, 65, 66] (by decide +kernel) (by decide +kernel)
set_option maxRecDepth 20000 in
theorem gX6_tellDays_X6_heardNow : GoodIn wsX6_tellDays (wsV RX6 138 RX6 yX6_heardNow wsX6_heardNow) := goodIn_app (goodIn_of _ (by decide +kernel)) ggX6_tellDays_X6_heardNow
theorem dX6_tellDays_0 : decode cX6_tellDays 0 = .ok (.iload_n 1, 1) := by decide +kernel
theorem dX6_tellDays_1 : decode cX6_tellDays 1 = .ok (.iconst 2, 1) := by decide +kernel
theorem dX6_tellDays_2 : decode cX6_tellDays 2 = .ok (.if_icmp .ne 21, 3) := by decide +kernel
theorem dX6_tellDays_5 : decode cX6_tellDays 5 = .ok (.aload_n 0, 1) := by decide +kernel
theorem dX6_tellDays_6 : decode cX6_tellDays 6 = .ok (.invokevirtual 128, 3) := by decide +kernel
theorem dX6_tellDays_9 : decode cX6_tellDays 9 = .ok (.aload_n 0, 1) := by decide +kernel
theorem dX6_tellDays_10 : decode cX6_tellDays 10 = .ok (.aload_n 0, 1) := by decide +kernel
theorem dX6_tellDays_11 : decode cX6_tellDays 11 = .ok (.getfield 86, 3) := by decide +kernel
theorem dX6_tellDays_14 : decode cX6_tellDays 14 = .ok (.aload_n 0, 1) := by decide +kernel
theorem dX6_tellDays_15 : decode cX6_tellDays 15 = .ok (.getfield 92, 3) := by decide +kernel
theorem dX6_tellDays_18 : decode cX6_tellDays 18 = .ok (.iconst 0, 1) := by decide +kernel
theorem dX6_tellDays_19 : decode cX6_tellDays 19 = .ok (.invokevirtual 144, 3) := by decide +kernel
theorem dX6_tellDays_22 : decode cX6_tellDays 22 = .ok (.ireturn, 1) := by decide +kernel
theorem dX6_tellDays_23 : decode cX6_tellDays 23 = .ok (.iload_n 1, 1) := by decide +kernel
theorem dX6_tellDays_24 : decode cX6_tellDays 24 = .ok (.ifCond .ne 10, 3) := by decide +kernel
theorem dX6_tellDays_27 : decode cX6_tellDays 27 = .ok (.aload_n 0, 1) := by decide +kernel
theorem dX6_tellDays_28 : decode cX6_tellDays 28 = .ok (.getfield 56, 3) := by decide +kernel
theorem dX6_tellDays_31 : decode cX6_tellDays 31 = .ok (.goto 19, 3) := by decide +kernel
theorem dX6_tellDays_34 : decode cX6_tellDays 34 = .ok (.iload_n 1, 1) := by decide +kernel
theorem dX6_tellDays_35 : decode cX6_tellDays 35 = .ok (.iconst 3, 1) := by decide +kernel
theorem dX6_tellDays_36 : decode cX6_tellDays 36 = .ok (.if_icmp .ne 10, 3) := by decide +kernel
theorem dX6_tellDays_39 : decode cX6_tellDays 39 = .ok (.aload_n 0, 1) := by decide +kernel
theorem dX6_tellDays_40 : decode cX6_tellDays 40 = .ok (.invokevirtual 138, 3) := by decide +kernel
theorem dX6_tellDays_43 : decode cX6_tellDays 43 = .ok (.goto 7, 3) := by decide +kernel
theorem dX6_tellDays_46 : decode cX6_tellDays 46 = .ok (.aload_n 0, 1) := by decide +kernel
theorem dX6_tellDays_47 : decode cX6_tellDays 47 = .ok (.getfield 170, 3) := by decide +kernel
theorem dX6_tellDays_50 : decode cX6_tellDays 50 = .ok (.ireturn, 1) := by decide +kernel
set_option maxRecDepth 20000 in
theorem ggX6_needs_X6_isLayer : GoodIn wsX6_needs wsX6_isLayer := goodIn_r _ [6, 7, 30, 31, 32, 33, 34, 35, 36, 37, 38, 39, 40, 41, 42, 43, 44, 45, 46, 47, 48, 49, 50, 51, 52, 53, 54, 55] (by decide +kernel) (by decide +kernel)
set_option maxRecDepth 20000 in
theorem gX6_needs_X6_isLayer : GoodIn wsX6_needs (wsV RX6 131 RX6 yX6_isLayer wsX6_isLayer) := goodIn_app (goodIn_of _ (by decide +kernel)) ggX6_needs_X6_isLayer
set_option maxRecDepth 20000 in
theorem ggX6_needs_X6_orderAsIs : GoodIn wsX6_needs wsX6_orderAsIs := goodIn_r _ [11, 7, 12, 30, 31, 32, 33, 34, 35, 36, 37, 38, 39, 40, 41, 42, 43, 44, 45, 46, 47, 48, 49, 50, 51, 52, 53, 54, 55] (by decide +kernel) (by decide +kernel)
set_option maxRecDepth 20000 in
theorem gX6_needs_X6_orderAsIs : GoodIn wsX6_needs (wsV RX6 128 RX6 yX6_orderAsIs wsX6_orderAsIs) := goodIn_app (goodIn_of _ (by decide +kernel)) ggX6_needs_X6_orderAsIs
set_option maxRecDepth 20000 in
theorem ggX6_needs_X6_heardBy : GoodIn wsX6_needs wsX6_heardBy := goodIn_r _ [16, 7, 12, 17, 18, 19, 20, 5, 21, 22, 23, 24, 25, 26, 27, 28, 29, 30, 31, 32, 33, 34, 35, 36, 37, 38, 39, 40, 41, 42, 43, 44, 45, 46, 47, 48, 49, 50, 51, 52, 53, 54, 55] (by decide +kernel) (by decide +kernel)
set_option maxRecDepth 20000 in
theorem gX6_needs_X6_heardBy : GoodIn wsX6_needs (wsV RX6 121 RX6 yX6_heardBy wsX6_heardBy) := goodIn_app (goodIn_of _ (by decide +kernel)) ggX6_needs_X6_heardBy
set_option maxRecDepth 20000 in
theorem ggX6_needs_X6_isOf : GoodIn wsX6_needs wsX6_isOf := goodIn_r _ [24] (by decide +kernel) (by decide +kernel)
set_option maxRecDepth 20000 in
theorem gX6_needs_X6_isOf : GoodIn wsX6_needs (va_wsS RX6 111 yX6_isOf wsX6_isOf) := goodIn_app (goodIn_of _ (by decide +kernel)) ggX6_needs_X6_isOf
theorem dX6_needs_0 : decode cX6_needs 0 = .ok (.aload_n 0, 1) := by decide +kernel
theorem dX6_needs_1 : decode cX6_needs 1 = .ok (.iload_n 1, 1) := by decide +kernel
theorem dX6_needs_2 : decode cX6_needs 2 = .ok (.invokevirtual 131, 3) := by decide +kernel
theorem dX6_needs_5 : decode cX6_needs 5 = .ok (.ifCond .ne 5, 3) := by decide +kernel
theorem dX6_needs_8 : decode cX6_needs 8 = .ok (.iconst (-1), 1) := by decide +kernel
theorem dX6_needs_9 : decode cX6_needs 9 = .ok (.ireturn, 1) := by decide +kernel
theorem dX6_needs_10 : decode cX6_needs 10 = .ok (.aload_n 0, 1) := by decide +kernel
theorem dX6_needs_11 : decode cX6_needs 11 = .ok (.invokevirtual 128, 3) := by decide +kernel
theorem dX6_needs_14 : decode cX6_needs 14 = .ok (.iconst 0, 1) := by decide +kernel
theorem dX6_needs_15 : decode cX6_needs 15 = .ok (.istore_n 2, 1) := by decide +kernel
theorem dX6_needs_16 : decode cX6_needs 16 = .ok (.iload_n 2, 1) := by decide +kernel
theorem dX6_needs_17 : decode cX6_needs 17 = .ok (.bipush 20, 2) := by decide +kernel
theorem dX6_needs_19 : decode cX6_needs 19 = .ok (.if_icmp .gt 28, 3) := by decide +kernel
theorem dX6_needs_22 : decode cX6_needs 22 = .ok (.aload_n 0, 1) := by decide +kernel
theorem dX6_needs_23 : decode cX6_needs 23 = .ok (.iload_n 2, 1) := by decide +kernel
theorem dX6_needs_24 : decode cX6_needs 24 = .ok (.aload_n 0, 1) := by decide +kernel
theorem dX6_needs_25 : decode cX6_needs 25 = .ok (.getfield 92, 3) := by decide +kernel
theorem dX6_needs_28 : decode cX6_needs 28 = .ok (.iconst 0, 1) := by decide +kernel
theorem dX6_needs_29 : decode cX6_needs 29 = .ok (.invokevirtual 121, 3) := by decide +kernel
theorem dX6_needs_32 : decode cX6_needs 32 = .ok (.iload_n 1, 1) := by decide +kernel
theorem dX6_needs_33 : decode cX6_needs 33 = .ok (.invokestatic 111, 3) := by decide +kernel
theorem dX6_needs_36 : decode cX6_needs 36 = .ok (.ifCond .eq 5, 3) := by decide +kernel
theorem dX6_needs_39 : decode cX6_needs 39 = .ok (.iload_n 2, 1) := by decide +kernel
theorem dX6_needs_40 : decode cX6_needs 40 = .ok (.ireturn, 1) := by decide +kernel
theorem dX6_needs_41 : decode cX6_needs 41 = .ok (.iinc 2 1, 3) := by decide +kernel
theorem dX6_needs_44 : decode cX6_needs 44 = .ok (.goto (-28), 3) := by decide +kernel
theorem dX6_needs_47 : decode cX6_needs 47 = .ok (.bipush (-9), 2) := by decide +kernel
theorem dX6_needs_49 : decode cX6_needs 49 = .ok (.ireturn, 1) := by decide +kernel
set_option maxRecDepth 20000 in
theorem ggX6_gets_X6_isDigit : GoodIn wsX6_gets wsX6_isDigit := goodIn_r _ [6, 7, 8, 5, 9] (by decide +kernel) (by decide +kernel)
set_option maxRecDepth 20000 in
theorem gX6_gets_X6_isDigit : GoodIn wsX6_gets (va_wsS RX6 141 yX6_isDigit wsX6_isDigit) := goodIn_app (goodIn_of _ (by decide +kernel)) ggX6_gets_X6_isDigit
set_option maxRecDepth 20000 in
theorem ggX6_gets_X6_orderAsIs : GoodIn wsX6_gets wsX6_orderAsIs := goodIn_r _ [13, 1, 14, 41, 42, 43, 44, 45, 46, 47, 48, 49, 50, 51, 52, 53, 54, 55, 56, 57, 58, 59, 60, 61, 62, 63, 64, 65, 66] (by decide +kernel) (by decide +kernel)
set_option maxRecDepth 20000 in
theorem gX6_gets_X6_orderAsIs : GoodIn wsX6_gets (wsV RX6 128 RX6 yX6_orderAsIs wsX6_orderAsIs) := goodIn_app (goodIn_of _ (by decide +kernel)) ggX6_gets_X6_orderAsIs
set_option maxRecDepth 20000 in
theorem ggX6_gets_X6_counselBy : GoodIn wsX6_gets wsX6_counselBy := goodIn_r _ [18, 1, 14, 19, 20, 21, 22, 5, 23, 24, 25, 26, 27, 28, 29, 30, 31, 32, 33, 34, 35, 36, 37, 38, 39, 40, 41, 42, 43, 44, 45, 46, 47, 48, 49, 50, 51, 52, 53, 54, 55, 56, 57, 58, 59, 60, 61, 62, 63, 64, 65, 66] (by decide +kernel) (by decide +kernel)
set_option maxRecDepth 20000 in
theorem gX6_gets_X6_counselBy : GoodIn wsX6_gets (wsV RX6 144 RX6 yX6_counselBy wsX6_counselBy) := goodIn_app (goodIn_of _ (by decide +kernel)) ggX6_gets_X6_counselBy
theorem dX6_gets_0 : decode cX6_gets 0 = .ok (.iload_n 1, 1) := by decide +kernel
theorem dX6_gets_1 : decode cX6_gets 1 = .ok (.invokestatic 141, 3) := by decide +kernel
theorem dX6_gets_4 : decode cX6_gets 4 = .ok (.ifCond .ne 6, 3) := by decide +kernel
theorem dX6_gets_7 : decode cX6_gets 7 = .ok (.bipush (-2), 2) := by decide +kernel
theorem dX6_gets_9 : decode cX6_gets 9 = .ok (.ireturn, 1) := by decide +kernel
theorem dX6_gets_10 : decode cX6_gets 10 = .ok (.aload_n 0, 1) := by decide +kernel
theorem dX6_gets_11 : decode cX6_gets 11 = .ok (.getfield 56, 3) := by decide +kernel
theorem dX6_gets_14 : decode cX6_gets 14 = .ok (.ifCond .ne 6, 3) := by decide +kernel
theorem dX6_gets_17 : decode cX6_gets 17 = .ok (.bipush (-3), 2) := by decide +kernel
theorem dX6_gets_19 : decode cX6_gets 19 = .ok (.ireturn, 1) := by decide +kernel
theorem dX6_gets_20 : decode cX6_gets 20 = .ok (.aload_n 0, 1) := by decide +kernel
theorem dX6_gets_21 : decode cX6_gets 21 = .ok (.invokevirtual 128, 3) := by decide +kernel
theorem dX6_gets_24 : decode cX6_gets 24 = .ok (.iconst 0, 1) := by decide +kernel
theorem dX6_gets_25 : decode cX6_gets 25 = .ok (.istore_n 2, 1) := by decide +kernel
theorem dX6_gets_26 : decode cX6_gets 26 = .ok (.iload_n 2, 1) := by decide +kernel
theorem dX6_gets_27 : decode cX6_gets 27 = .ok (.bipush 20, 2) := by decide +kernel
theorem dX6_gets_29 : decode cX6_gets 29 = .ok (.if_icmp .gt 25, 3) := by decide +kernel
theorem dX6_gets_32 : decode cX6_gets 32 = .ok (.aload_n 0, 1) := by decide +kernel
theorem dX6_gets_33 : decode cX6_gets 33 = .ok (.iload_n 2, 1) := by decide +kernel
theorem dX6_gets_34 : decode cX6_gets 34 = .ok (.aload_n 0, 1) := by decide +kernel
theorem dX6_gets_35 : decode cX6_gets 35 = .ok (.getfield 92, 3) := by decide +kernel
theorem dX6_gets_38 : decode cX6_gets 38 = .ok (.iconst 0, 1) := by decide +kernel
theorem dX6_gets_39 : decode cX6_gets 39 = .ok (.invokevirtual 144, 3) := by decide +kernel
theorem dX6_gets_42 : decode cX6_gets 42 = .ok (.iload_n 1, 1) := by decide +kernel
theorem dX6_gets_43 : decode cX6_gets 43 = .ok (.if_icmp .ne 5, 3) := by decide +kernel
theorem dX6_gets_46 : decode cX6_gets 46 = .ok (.iload_n 2, 1) := by decide +kernel
theorem dX6_gets_47 : decode cX6_gets 47 = .ok (.ireturn, 1) := by decide +kernel
theorem dX6_gets_48 : decode cX6_gets 48 = .ok (.iinc 2 1, 3) := by decide +kernel
theorem dX6_gets_51 : decode cX6_gets 51 = .ok (.goto (-25), 3) := by decide +kernel
theorem dX6_gets_54 : decode cX6_gets 54 = .ok (.bipush (-9), 2) := by decide +kernel
theorem dX6_gets_56 : decode cX6_gets 56 = .ok (.ireturn, 1) := by decide +kernel
set_option maxRecDepth 20000 in
theorem ggX6_without_X6_isDigit : GoodIn wsX6_without wsX6_isDigit := goodIn_r _ [7, 8, 9, 6, 10] (by decide +kernel) (by decide +kernel)
set_option maxRecDepth 20000 in
theorem gX6_without_X6_isDigit : GoodIn wsX6_without (va_wsS RX6 141 yX6_isDigit wsX6_isDigit) := goodIn_app (goodIn_of _ (by decide +kernel)) ggX6_without_X6_isDigit
set_option maxRecDepth 20000 in
theorem ggX6_without_X6_orderAsIs : GoodIn wsX6_without wsX6_orderAsIs := goodIn_r _ [14, 1, 15, 45, 46, 47, 48, 49, 50, 51, 52, 53, 54, 55, 56, 57, 58, 59, 60, 61, 62, 63, 64, 65, 66, 67, 68, 69, 70] (by decide +kernel) (by decide +kernel)
set_option maxRecDepth 20000 in
theorem gX6_without_X6_orderAsIs : GoodIn wsX6_without (wsV RX6 128 RX6 yX6_orderAsIs wsX6_orderAsIs) := goodIn_app (goodIn_of _ (by decide +kernel)) ggX6_without_X6_orderAsIs
set_option maxRecDepth 20000 in
theorem ggX6_without_X6_size : GoodIn wsX6_without wsX6_size := goodIn_r _ [18] (by decide +kernel) (by decide +kernel)
set_option maxRecDepth 20000 in
theorem gX6_without_X6_size : GoodIn wsX6_without (va_wsS RX6 147 yX6_size wsX6_size) := goodIn_app (goodIn_of _ (by decide +kernel)) ggX6_without_X6_size
set_option maxRecDepth 20000 in
theorem ggX6_without_X6_counselBy : GoodIn wsX6_without wsX6_counselBy := goodIn_r _ [22, 1, 15, 23, 24, 25, 26, 6, 27, 28, 29, 30, 31, 32, 33, 34, 35, 36, 37, 38, 39, 40, 41, 42, 43, 44, 45, 46, 47, 48, 49, 50, 51, 52, 53, 54, 55, 56, 57, 58, 59, 60, 61, 62, 63, 64, 65, 66, 67, 68, 69, 70] (by decide +kernel) (by decide +kernel)
set_option maxRecDepth 20000 in
theorem gX6_without_X6_counselBy : GoodIn wsX6_without (wsV RX6 144 RX6 yX6_counselBy wsX6_counselBy) := goodIn_app (goodIn_of _ (by decide +kernel)) ggX6_without_X6_counselBy
theorem dX6_without_0 : decode cX6_without 0 = .ok (.iload_n 1, 1) := by decide +kernel
theorem dX6_without_1 : decode cX6_without 1 = .ok (.invokestatic 141, 3) := by decide +kernel
theorem dX6_without_4 : decode cX6_without 4 = .ok (.ifCond .ne 6, 3) := by decide +kernel
theorem dX6_without_7 : decode cX6_without 7 = .ok (.bipush (-2), 2) := by decide +kernel
theorem dX6_without_9 : decode cX6_without 9 = .ok (.ireturn, 1) := by decide +kernel
theorem dX6_without_10 : decode cX6_without 10 = .ok (.aload_n 0, 1) := by decide +kernel
theorem dX6_without_11 : decode cX6_without 11 = .ok (.getfield 56, 3) := by decide +kernel
theorem dX6_without_14 : decode cX6_without 14 = .ok (.ifCond .ne 6, 3) := by decide +kernel
theorem dX6_without_17 : decode cX6_without 17 = .ok (.bipush (-3), 2) := by decide +kernel
theorem dX6_without_19 : decode cX6_without 19 = .ok (.ireturn, 1) := by decide +kernel
theorem dX6_without_20 : decode cX6_without 20 = .ok (.aload_n 0, 1) := by decide +kernel
theorem dX6_without_21 : decode cX6_without 21 = .ok (.invokevirtual 128, 3) := by decide +kernel
theorem dX6_without_24 : decode cX6_without 24 = .ok (.bipush (-9), 2) := by decide +kernel
theorem dX6_without_26 : decode cX6_without 26 = .ok (.istore_n 2, 1) := by decide +kernel
theorem dX6_without_27 : decode cX6_without 27 = .ok (.iconst 0, 1) := by decide +kernel
theorem dX6_without_28 : decode cX6_without 28 = .ok (.istore_n 3, 1) := by decide +kernel
theorem dX6_without_29 : decode cX6_without 29 = .ok (.iload_n 3, 1) := by decide +kernel
theorem dX6_without_30 : decode cX6_without 30 = .ok (.iconst 1, 1) := by decide +kernel
theorem dX6_without_31 : decode cX6_without 31 = .ok (.aload_n 0, 1) := by decide +kernel
theorem dX6_without_32 : decode cX6_without 32 = .ok (.getfield 56, 3) := by decide +kernel
theorem dX6_without_35 : decode cX6_without 35 = .ok (.ishl, 1) := by decide +kernel
theorem dX6_without_36 : decode cX6_without 36 = .ok (.if_icmp .ge 57, 3) := by decide +kernel
theorem dX6_without_39 : decode cX6_without 39 = .ok (.iload_n 2, 1) := by decide +kernel
theorem dX6_without_40 : decode cX6_without 40 = .ok (.bipush (-9), 2) := by decide +kernel
theorem dX6_without_42 : decode cX6_without 42 = .ok (.if_icmp .eq 14, 3) := by decide +kernel
theorem dX6_without_45 : decode cX6_without 45 = .ok (.iload_n 3, 1) := by decide +kernel
theorem dX6_without_46 : decode cX6_without 46 = .ok (.invokestatic 147, 3) := by decide +kernel
theorem dX6_without_49 : decode cX6_without 49 = .ok (.iload_n 2, 1) := by decide +kernel
theorem dX6_without_50 : decode cX6_without 50 = .ok (.invokestatic 147, 3) := by decide +kernel
theorem dX6_without_53 : decode cX6_without 53 = .ok (.if_icmp .ge 7, 3) := by decide +kernel
theorem dX6_without_56 : decode cX6_without 56 = .ok (.iconst 1, 1) := by decide +kernel
theorem dX6_without_57 : decode cX6_without 57 = .ok (.goto 4, 3) := by decide +kernel
theorem dX6_without_60 : decode cX6_without 60 = .ok (.iconst 0, 1) := by decide +kernel
theorem dX6_without_61 : decode cX6_without 61 = .ok (.istore 4, 2) := by decide +kernel
theorem dX6_without_63 : decode cX6_without 63 = .ok (.iload 4, 2) := by decide +kernel
theorem dX6_without_65 : decode cX6_without 65 = .ok (.ifCond .eq 22, 3) := by decide +kernel
theorem dX6_without_68 : decode cX6_without 68 = .ok (.aload_n 0, 1) := by decide +kernel
theorem dX6_without_69 : decode cX6_without 69 = .ok (.aload_n 0, 1) := by decide +kernel
theorem dX6_without_70 : decode cX6_without 70 = .ok (.getfield 86, 3) := by decide +kernel
theorem dX6_without_73 : decode cX6_without 73 = .ok (.aload_n 0, 1) := by decide +kernel
theorem dX6_without_74 : decode cX6_without 74 = .ok (.getfield 92, 3) := by decide +kernel
theorem dX6_without_77 : decode cX6_without 77 = .ok (.iload_n 3, 1) := by decide +kernel
theorem dX6_without_78 : decode cX6_without 78 = .ok (.invokevirtual 144, 3) := by decide +kernel
theorem dX6_without_81 : decode cX6_without 81 = .ok (.iload_n 1, 1) := by decide +kernel
theorem dX6_without_82 : decode cX6_without 82 = .ok (.if_icmp .ne 5, 3) := by decide +kernel
theorem dX6_without_85 : decode cX6_without 85 = .ok (.iload_n 3, 1) := by decide +kernel
theorem dX6_without_86 : decode cX6_without 86 = .ok (.istore_n 2, 1) := by decide +kernel
theorem dX6_without_87 : decode cX6_without 87 = .ok (.iinc 3 1, 3) := by decide +kernel
theorem dX6_without_90 : decode cX6_without 90 = .ok (.goto (-61), 3) := by decide +kernel
theorem dX6_without_93 : decode cX6_without 93 = .ok (.iload_n 2, 1) := by decide +kernel
theorem dX6_without_94 : decode cX6_without 94 = .ok (.ireturn, 1) := by decide +kernel
set_option maxRecDepth 20000 in
theorem ggX6_reading_X6_within : GoodIn wsX6_reading wsX6_within := goodIn_r _ [9] (by decide +kernel) (by decide +kernel)
set_option maxRecDepth 20000 in
theorem gX6_reading_X6_within : GoodIn wsX6_reading (va_wsS RX6 52 yX6_within wsX6_within) := goodIn_app (goodIn_of _ (by decide +kernel)) ggX6_reading_X6_within
set_option maxRecDepth 20000 in
theorem ggX6_reading_X6_isDigit : GoodIn wsX6_reading wsX6_isDigit := goodIn_r _ [12, 6, 7, 8, 9] (by decide +kernel) (by decide +kernel)
set_option maxRecDepth 20000 in
theorem gX6_reading_X6_isDigit : GoodIn wsX6_reading (va_wsS RX6 141 yX6_isDigit wsX6_isDigit) := goodIn_app (goodIn_of _ (by decide +kernel)) ggX6_reading_X6_isDigit
theorem dX6_reading_0 : decode cX6_reading 0 = .ok (.iload_n 1, 1) := by decide +kernel
theorem dX6_reading_1 : decode cX6_reading 1 = .ok (.iconst 0, 1) := by decide +kernel
theorem dX6_reading_2 : decode cX6_reading 2 = .ok (.bipush 20, 2) := by decide +kernel
theorem dX6_reading_4 : decode cX6_reading 4 = .ok (.invokestatic 52, 3) := by decide +kernel
theorem dX6_reading_7 : decode cX6_reading 7 = .ok (.ifCond .eq 23, 3) := by decide +kernel
theorem dX6_reading_10 : decode cX6_reading 10 = .ok (.iload_n 2, 1) := by decide +kernel
theorem dX6_reading_11 : decode cX6_reading 11 = .ok (.invokestatic 141, 3) := by decide +kernel
theorem dX6_reading_14 : decode cX6_reading 14 = .ok (.ifCond .eq 16, 3) := by decide +kernel
theorem dX6_reading_17 : decode cX6_reading 17 = .ok (.iload_n 3, 1) := by decide +kernel
theorem dX6_reading_18 : decode cX6_reading 18 = .ok (.invokestatic 141, 3) := by decide +kernel
theorem dX6_reading_21 : decode cX6_reading 21 = .ok (.ifCond .ne 12, 3) := by decide +kernel
theorem dX6_reading_24 : decode cX6_reading 24 = .ok (.iload_n 3, 1) := by decide +kernel
theorem dX6_reading_25 : decode cX6_reading 25 = .ok (.bipush (-9), 2) := by decide +kernel
theorem dX6_reading_27 : decode cX6_reading 27 = .ok (.if_icmp .eq 6, 3) := by decide +kernel
theorem dX6_reading_30 : decode cX6_reading 30 = .ok (.bipush (-2), 2) := by decide +kernel
theorem dX6_reading_32 : decode cX6_reading 32 = .ok (.ireturn, 1) := by decide +kernel
theorem dX6_reading_33 : decode cX6_reading 33 = .ok (.aload_n 0, 1) := by decide +kernel
theorem dX6_reading_34 : decode cX6_reading 34 = .ok (.getfield 56, 3) := by decide +kernel
theorem dX6_reading_37 : decode cX6_reading 37 = .ok (.ifCond .ne 6, 3) := by decide +kernel
theorem dX6_reading_40 : decode cX6_reading 40 = .ok (.bipush (-3), 2) := by decide +kernel
theorem dX6_reading_42 : decode cX6_reading 42 = .ok (.ireturn, 1) := by decide +kernel
theorem dX6_reading_43 : decode cX6_reading 43 = .ok (.aload_n 0, 1) := by decide +kernel
theorem dX6_reading_44 : decode cX6_reading 44 = .ok (.getfield 98, 3) := by decide +kernel
theorem dX6_reading_47 : decode cX6_reading 47 = .ok (.bipush 8, 2) := by decide +kernel
theorem dX6_reading_49 : decode cX6_reading 49 = .ok (.if_icmp .ne 6, 3) := by decide +kernel
theorem dX6_reading_52 : decode cX6_reading 52 = .ok (.bipush (-4), 2) := by decide +kernel
theorem dX6_reading_54 : decode cX6_reading 54 = .ok (.ireturn, 1) := by decide +kernel
theorem dX6_reading_55 : decode cX6_reading 55 = .ok (.aload_n 0, 1) := by decide +kernel
theorem dX6_reading_56 : decode cX6_reading 56 = .ok (.getfield 37, 3) := by decide +kernel
theorem dX6_reading_59 : decode cX6_reading 59 = .ok (.aload_n 0, 1) := by decide +kernel
theorem dX6_reading_60 : decode cX6_reading 60 = .ok (.getfield 98, 3) := by decide +kernel
theorem dX6_reading_63 : decode cX6_reading 63 = .ok (.iload_n 1, 1) := by decide +kernel
theorem dX6_reading_64 : decode cX6_reading 64 = .ok (.iastore, 1) := by decide +kernel
theorem dX6_reading_65 : decode cX6_reading 65 = .ok (.aload_n 0, 1) := by decide +kernel
theorem dX6_reading_66 : decode cX6_reading 66 = .ok (.getfield 40, 3) := by decide +kernel
theorem dX6_reading_69 : decode cX6_reading 69 = .ok (.aload_n 0, 1) := by decide +kernel
theorem dX6_reading_70 : decode cX6_reading 70 = .ok (.getfield 98, 3) := by decide +kernel
theorem dX6_reading_73 : decode cX6_reading 73 = .ok (.iload_n 2, 1) := by decide +kernel
theorem dX6_reading_74 : decode cX6_reading 74 = .ok (.iastore, 1) := by decide +kernel
theorem dX6_reading_75 : decode cX6_reading 75 = .ok (.aload_n 0, 1) := by decide +kernel
theorem dX6_reading_76 : decode cX6_reading 76 = .ok (.getfield 43, 3) := by decide +kernel
theorem dX6_reading_79 : decode cX6_reading 79 = .ok (.aload_n 0, 1) := by decide +kernel
theorem dX6_reading_80 : decode cX6_reading 80 = .ok (.getfield 98, 3) := by decide +kernel
theorem dX6_reading_83 : decode cX6_reading 83 = .ok (.iload_n 3, 1) := by decide +kernel
theorem dX6_reading_84 : decode cX6_reading 84 = .ok (.iastore, 1) := by decide +kernel
theorem dX6_reading_85 : decode cX6_reading 85 = .ok (.aload_n 0, 1) := by decide +kernel
theorem dX6_reading_86 : decode cX6_reading 86 = .ok (.dup, 1) := by decide +kernel
theorem dX6_reading_87 : decode cX6_reading 87 = .ok (.getfield 98, 3) := by decide +kernel
theorem dX6_reading_90 : decode cX6_reading 90 = .ok (.iconst 1, 1) := by decide +kernel
theorem dX6_reading_91 : decode cX6_reading 91 = .ok (.iadd, 1) := by decide +kernel
theorem dX6_reading_92 : decode cX6_reading 92 = .ok (.putfield 98, 3) := by decide +kernel
theorem dX6_reading_95 : decode cX6_reading 95 = .ok (.aload_n 0, 1) := by decide +kernel
theorem dX6_reading_96 : decode cX6_reading 96 = .ok (.getfield 98, 3) := by decide +kernel
theorem dX6_reading_99 : decode cX6_reading 99 = .ok (.iconst 1, 1) := by decide +kernel
theorem dX6_reading_100 : decode cX6_reading 100 = .ok (.isub, 1) := by decide +kernel
theorem dX6_reading_101 : decode cX6_reading 101 = .ok (.ireturn, 1) := by decide +kernel
set_option maxRecDepth 20000 in
theorem ggX6_back_X6_within : GoodIn wsX6_back wsX6_within := goodIn_r _ [5] (by decide +kernel) (by decide +kernel)
set_option maxRecDepth 20000 in
theorem gX6_back_X6_within : GoodIn wsX6_back (va_wsS RX6 52 yX6_within wsX6_within) := goodIn_app (goodIn_of _ (by decide +kernel)) ggX6_back_X6_within
theorem dX6_back_0 : decode cX6_back 0 = .ok (.iload_n 1, 1) := by decide +kernel
theorem dX6_back_1 : decode cX6_back 1 = .ok (.iconst 0, 1) := by decide +kernel
theorem dX6_back_2 : decode cX6_back 2 = .ok (.aload_n 0, 1) := by decide +kernel
theorem dX6_back_3 : decode cX6_back 3 = .ok (.getfield 98, 3) := by decide +kernel
theorem dX6_back_6 : decode cX6_back 6 = .ok (.invokestatic 52, 3) := by decide +kernel
theorem dX6_back_9 : decode cX6_back 9 = .ok (.ifCond .ne 6, 3) := by decide +kernel
theorem dX6_back_12 : decode cX6_back 12 = .ok (.bipush (-2), 2) := by decide +kernel
theorem dX6_back_14 : decode cX6_back 14 = .ok (.ireturn, 1) := by decide +kernel
theorem dX6_back_15 : decode cX6_back 15 = .ok (.aload_n 0, 1) := by decide +kernel
theorem dX6_back_16 : decode cX6_back 16 = .ok (.dup, 1) := by decide +kernel
theorem dX6_back_17 : decode cX6_back 17 = .ok (.getfield 98, 3) := by decide +kernel
theorem dX6_back_20 : decode cX6_back 20 = .ok (.iload_n 1, 1) := by decide +kernel
theorem dX6_back_21 : decode cX6_back 21 = .ok (.isub, 1) := by decide +kernel
theorem dX6_back_22 : decode cX6_back 22 = .ok (.putfield 98, 3) := by decide +kernel
theorem dX6_back_25 : decode cX6_back 25 = .ok (.aload_n 0, 1) := by decide +kernel
theorem dX6_back_26 : decode cX6_back 26 = .ok (.getfield 98, 3) := by decide +kernel
theorem dX6_back_29 : decode cX6_back 29 = .ok (.ireturn, 1) := by decide +kernel
set_option maxRecDepth 20000 in
theorem ggX6_areSo_X6_counselBy : GoodIn wsX6_areSo wsX6_counselBy := goodIn_r _ [9, 10, 11, 12, 13, 14, 15, 8, 16, 17, 18, 19, 20, 21, 22, 23, 24, 25, 26, 27, 28, 29, 30, 31, 32, 33, 34, 35, 36, 37, 38, 39, 40, 41, 42, 43, 44, 45, 46, 47, 48, 49, 50, 51, 52, 53, 54, 55, 56, 57, 58, 59] (by decide +kernel) (by decide +kernel)
set_option maxRecDepth 20000 in
theorem gX6_areSo_X6_counselBy : GoodIn wsX6_areSo (wsV RX6 144 RX6 yX6_counselBy wsX6_counselBy) := goodIn_app (goodIn_of _ (by decide +kernel)) ggX6_areSo_X6_counselBy
theorem dX6_areSo_0 : decode cX6_areSo 0 = .ok (.iconst 0, 1) := by decide +kernel
theorem dX6_areSo_1 : decode cX6_areSo 1 = .ok (.istore_n 1, 1) := by decide +kernel
theorem dX6_areSo_2 : decode cX6_areSo 2 = .ok (.iload_n 1, 1) := by decide +kernel
theorem dX6_areSo_3 : decode cX6_areSo 3 = .ok (.aload_n 0, 1) := by decide +kernel
theorem dX6_areSo_4 : decode cX6_areSo 4 = .ok (.getfield 98, 3) := by decide +kernel
theorem dX6_areSo_7 : decode cX6_areSo 7 = .ok (.if_icmp .ge 37, 3) := by decide +kernel
theorem dX6_areSo_10 : decode cX6_areSo 10 = .ok (.aload_n 0, 1) := by decide +kernel
theorem dX6_areSo_11 : decode cX6_areSo 11 = .ok (.aload_n 0, 1) := by decide +kernel
theorem dX6_areSo_12 : decode cX6_areSo 12 = .ok (.getfield 37, 3) := by decide +kernel
theorem dX6_areSo_15 : decode cX6_areSo 15 = .ok (.iload_n 1, 1) := by decide +kernel
theorem dX6_areSo_16 : decode cX6_areSo 16 = .ok (.iaload, 1) := by decide +kernel
theorem dX6_areSo_17 : decode cX6_areSo 17 = .ok (.aload_n 0, 1) := by decide +kernel
theorem dX6_areSo_18 : decode cX6_areSo 18 = .ok (.getfield 40, 3) := by decide +kernel
theorem dX6_areSo_21 : decode cX6_areSo 21 = .ok (.iload_n 1, 1) := by decide +kernel
theorem dX6_areSo_22 : decode cX6_areSo 22 = .ok (.iaload, 1) := by decide +kernel
theorem dX6_areSo_23 : decode cX6_areSo 23 = .ok (.iconst 0, 1) := by decide +kernel
theorem dX6_areSo_24 : decode cX6_areSo 24 = .ok (.invokevirtual 144, 3) := by decide +kernel
theorem dX6_areSo_27 : decode cX6_areSo 27 = .ok (.aload_n 0, 1) := by decide +kernel
theorem dX6_areSo_28 : decode cX6_areSo 28 = .ok (.getfield 43, 3) := by decide +kernel
theorem dX6_areSo_31 : decode cX6_areSo 31 = .ok (.iload_n 1, 1) := by decide +kernel
theorem dX6_areSo_32 : decode cX6_areSo 32 = .ok (.iaload, 1) := by decide +kernel
theorem dX6_areSo_33 : decode cX6_areSo 33 = .ok (.if_icmp .eq 5, 3) := by decide +kernel
theorem dX6_areSo_36 : decode cX6_areSo 36 = .ok (.iconst 0, 1) := by decide +kernel
theorem dX6_areSo_37 : decode cX6_areSo 37 = .ok (.ireturn, 1) := by decide +kernel
theorem dX6_areSo_38 : decode cX6_areSo 38 = .ok (.iinc 1 1, 3) := by decide +kernel
theorem dX6_areSo_41 : decode cX6_areSo 41 = .ok (.goto (-39), 3) := by decide +kernel
theorem dX6_areSo_44 : decode cX6_areSo 44 = .ok (.iconst 1, 1) := by decide +kernel
theorem dX6_areSo_45 : decode cX6_areSo 45 = .ok (.ireturn, 1) := by decide +kernel
theorem dX6_ordersOf_0 : decode cX6_ordersOf 0 = .ok (.iconst 1, 1) := by decide +kernel
theorem dX6_ordersOf_1 : decode cX6_ordersOf 1 = .ok (.istore_n 1, 1) := by decide +kernel
theorem dX6_ordersOf_2 : decode cX6_ordersOf 2 = .ok (.iconst 2, 1) := by decide +kernel
theorem dX6_ordersOf_3 : decode cX6_ordersOf 3 = .ok (.istore_n 2, 1) := by decide +kernel
theorem dX6_ordersOf_4 : decode cX6_ordersOf 4 = .ok (.iload_n 2, 1) := by decide +kernel
theorem dX6_ordersOf_5 : decode cX6_ordersOf 5 = .ok (.iload_n 0, 1) := by decide +kernel
theorem dX6_ordersOf_6 : decode cX6_ordersOf 6 = .ok (.if_icmp .gt 13, 3) := by decide +kernel
theorem dX6_ordersOf_9 : decode cX6_ordersOf 9 = .ok (.iload_n 1, 1) := by decide +kernel
theorem dX6_ordersOf_10 : decode cX6_ordersOf 10 = .ok (.iload_n 2, 1) := by decide +kernel
theorem dX6_ordersOf_11 : decode cX6_ordersOf 11 = .ok (.imul, 1) := by decide +kernel
theorem dX6_ordersOf_12 : decode cX6_ordersOf 12 = .ok (.istore_n 1, 1) := by decide +kernel
theorem dX6_ordersOf_13 : decode cX6_ordersOf 13 = .ok (.iinc 2 1, 3) := by decide +kernel
theorem dX6_ordersOf_16 : decode cX6_ordersOf 16 = .ok (.goto (-12), 3) := by decide +kernel
theorem dX6_ordersOf_19 : decode cX6_ordersOf 19 = .ok (.iload_n 1, 1) := by decide +kernel
theorem dX6_ordersOf_20 : decode cX6_ordersOf 20 = .ok (.ireturn, 1) := by decide +kernel
set_option maxRecDepth 20000 in
theorem ggX6_orderBy_X6_ordersOf : GoodIn wsX6_orderBy wsX6_ordersOf := goodIn_r _ [6] (by decide +kernel) (by decide +kernel)
set_option maxRecDepth 20000 in
theorem gX6_orderBy_X6_ordersOf : GoodIn wsX6_orderBy (va_wsS RX6 191 yX6_ordersOf wsX6_ordersOf) := goodIn_app (goodIn_of _ (by decide +kernel)) ggX6_orderBy_X6_ordersOf
set_option maxRecDepth 20000 in
theorem ggX6_orderBy_X6_isOf : GoodIn wsX6_orderBy wsX6_isOf := goodIn_r _ [9] (by decide +kernel) (by decide +kernel)
set_option maxRecDepth 20000 in
theorem gX6_orderBy_X6_isOf : GoodIn wsX6_orderBy (va_wsS RX6 111 yX6_isOf wsX6_isOf) := goodIn_app (goodIn_of _ (by decide +kernel)) ggX6_orderBy_X6_isOf
theorem dX6_orderBy_0 : decode cX6_orderBy 0 = .ok (.iload_n 1, 1) := by decide +kernel
theorem dX6_orderBy_1 : decode cX6_orderBy 1 = .ok (.istore_n 2, 1) := by decide +kernel
theorem dX6_orderBy_2 : decode cX6_orderBy 2 = .ok (.aload_n 0, 1) := by decide +kernel
theorem dX6_orderBy_3 : decode cX6_orderBy 3 = .ok (.getfield 56, 3) := by decide +kernel
theorem dX6_orderBy_6 : decode cX6_orderBy 6 = .ok (.iconst 1, 1) := by decide +kernel
theorem dX6_orderBy_7 : decode cX6_orderBy 7 = .ok (.isub, 1) := by decide +kernel
theorem dX6_orderBy_8 : decode cX6_orderBy 8 = .ok (.invokestatic 191, 3) := by decide +kernel
theorem dX6_orderBy_11 : decode cX6_orderBy 11 = .ok (.istore_n 3, 1) := by decide +kernel
theorem dX6_orderBy_12 : decode cX6_orderBy 12 = .ok (.iconst 0, 1) := by decide +kernel
theorem dX6_orderBy_13 : decode cX6_orderBy 13 = .ok (.istore 4, 2) := by decide +kernel
theorem dX6_orderBy_15 : decode cX6_orderBy 15 = .ok (.iconst 0, 1) := by decide +kernel
theorem dX6_orderBy_16 : decode cX6_orderBy 16 = .ok (.istore 5, 2) := by decide +kernel
theorem dX6_orderBy_18 : decode cX6_orderBy 18 = .ok (.iload 5, 2) := by decide +kernel
theorem dX6_orderBy_20 : decode cX6_orderBy 20 = .ok (.aload_n 0, 1) := by decide +kernel
theorem dX6_orderBy_21 : decode cX6_orderBy 21 = .ok (.getfield 56, 3) := by decide +kernel
theorem dX6_orderBy_24 : decode cX6_orderBy 24 = .ok (.if_icmp .ge 109, 3) := by decide +kernel
theorem dX6_orderBy_27 : decode cX6_orderBy 27 = .ok (.iload_n 2, 1) := by decide +kernel
theorem dX6_orderBy_28 : decode cX6_orderBy 28 = .ok (.iload_n 3, 1) := by decide +kernel
theorem dX6_orderBy_29 : decode cX6_orderBy 29 = .ok (.idiv, 1) := by decide +kernel
theorem dX6_orderBy_30 : decode cX6_orderBy 30 = .ok (.istore 6, 2) := by decide +kernel
theorem dX6_orderBy_32 : decode cX6_orderBy 32 = .ok (.iload_n 2, 1) := by decide +kernel
theorem dX6_orderBy_33 : decode cX6_orderBy 33 = .ok (.iload_n 3, 1) := by decide +kernel
theorem dX6_orderBy_34 : decode cX6_orderBy 34 = .ok (.irem, 1) := by decide +kernel
theorem dX6_orderBy_35 : decode cX6_orderBy 35 = .ok (.istore_n 2, 1) := by decide +kernel
theorem dX6_orderBy_36 : decode cX6_orderBy 36 = .ok (.iconst 0, 1) := by decide +kernel
theorem dX6_orderBy_37 : decode cX6_orderBy 37 = .ok (.istore 7, 2) := by decide +kernel
theorem dX6_orderBy_39 : decode cX6_orderBy 39 = .ok (.iload 4, 2) := by decide +kernel
theorem dX6_orderBy_41 : decode cX6_orderBy 41 = .ok (.iload 7, 2) := by decide +kernel
theorem dX6_orderBy_43 : decode cX6_orderBy 43 = .ok (.invokestatic 111, 3) := by decide +kernel
theorem dX6_orderBy_46 : decode cX6_orderBy 46 = .ok (.ifCond .ne 8, 3) := by decide +kernel
theorem dX6_orderBy_49 : decode cX6_orderBy 49 = .ok (.iload 6, 2) := by decide +kernel
theorem dX6_orderBy_51 : decode cX6_orderBy 51 = .ok (.ifCond .le 29, 3) := by decide +kernel
theorem dX6_orderBy_54 : decode cX6_orderBy 54 = .ok (.iload 6, 2) := by decide +kernel
theorem dX6_orderBy_56 : decode cX6_orderBy 56 = .ok (.iload 4, 2) := by decide +kernel
theorem dX6_orderBy_58 : decode cX6_orderBy 58 = .ok (.iload 7, 2) := by decide +kernel
theorem dX6_orderBy_60 : decode cX6_orderBy 60 = .ok (.invokestatic 111, 3) := by decide +kernel
theorem dX6_orderBy_63 : decode cX6_orderBy 63 = .ok (.ifCond .eq 7, 3) := by decide +kernel
theorem dX6_orderBy_66 : decode cX6_orderBy 66 = .ok (.iconst 0, 1) := by decide +kernel
theorem dX6_orderBy_67 : decode cX6_orderBy 67 = .ok (.goto 4, 3) := by decide +kernel
theorem dX6_orderBy_70 : decode cX6_orderBy 70 = .ok (.iconst 1, 1) := by decide +kernel
theorem dX6_orderBy_71 : decode cX6_orderBy 71 = .ok (.isub, 1) := by decide +kernel
theorem dX6_orderBy_72 : decode cX6_orderBy 72 = .ok (.istore 6, 2) := by decide +kernel
theorem dX6_orderBy_74 : decode cX6_orderBy 74 = .ok (.iinc 7 1, 3) := by decide +kernel
theorem dX6_orderBy_77 : decode cX6_orderBy 77 = .ok (.goto (-38), 3) := by decide +kernel
theorem dX6_orderBy_80 : decode cX6_orderBy 80 = .ok (.aload_n 0, 1) := by decide +kernel
theorem dX6_orderBy_81 : decode cX6_orderBy 81 = .ok (.getfield 31, 3) := by decide +kernel
theorem dX6_orderBy_84 : decode cX6_orderBy 84 = .ok (.iload 5, 2) := by decide +kernel
theorem dX6_orderBy_86 : decode cX6_orderBy 86 = .ok (.iload 7, 2) := by decide +kernel
theorem dX6_orderBy_88 : decode cX6_orderBy 88 = .ok (.iastore, 1) := by decide +kernel
theorem dX6_orderBy_89 : decode cX6_orderBy 89 = .ok (.iload 4, 2) := by decide +kernel
theorem dX6_orderBy_91 : decode cX6_orderBy 91 = .ok (.iconst 1, 1) := by decide +kernel
theorem dX6_orderBy_92 : decode cX6_orderBy 92 = .ok (.iload 7, 2) := by decide +kernel
theorem dX6_orderBy_94 : decode cX6_orderBy 94 = .ok (.ishl, 1) := by decide +kernel
theorem dX6_orderBy_95 : decode cX6_orderBy 95 = .ok (.ior, 1) := by decide +kernel
theorem dX6_orderBy_96 : decode cX6_orderBy 96 = .ok (.istore 4, 2) := by decide +kernel
theorem dX6_orderBy_98 : decode cX6_orderBy 98 = .ok (.aload_n 0, 1) := by decide +kernel
theorem dX6_orderBy_99 : decode cX6_orderBy 99 = .ok (.getfield 56, 3) := by decide +kernel
theorem dX6_orderBy_102 : decode cX6_orderBy 102 = .ok (.iload 5, 2) := by decide +kernel
theorem dX6_orderBy_104 : decode cX6_orderBy 104 = .ok (.isub, 1) := by decide +kernel
theorem dX6_orderBy_105 : decode cX6_orderBy 105 = .ok (.iconst 1, 1) := by decide +kernel
theorem dX6_orderBy_106 : decode cX6_orderBy 106 = .ok (.isub, 1) := by decide +kernel
theorem dX6_orderBy_107 : decode cX6_orderBy 107 = .ok (.iconst 1, 1) := by decide +kernel
theorem dX6_orderBy_108 : decode cX6_orderBy 108 = .ok (.if_icmp .le 17, 3) := by decide +kernel
theorem dX6_orderBy_111 : decode cX6_orderBy 111 = .ok (.iload_n 3, 1) := by decide +kernel
theorem dX6_orderBy_112 : decode cX6_orderBy 112 = .ok (.aload_n 0, 1) := by decide +kernel
theorem dX6_orderBy_113 : decode cX6_orderBy 113 = .ok (.getfield 56, 3) := by decide +kernel
theorem dX6_orderBy_116 : decode cX6_orderBy 116 = .ok (.iload 5, 2) := by decide +kernel
theorem dX6_orderBy_118 : decode cX6_orderBy 118 = .ok (.isub, 1) := by decide +kernel
theorem dX6_orderBy_119 : decode cX6_orderBy 119 = .ok (.iconst 1, 1) := by decide +kernel
theorem dX6_orderBy_120 : decode cX6_orderBy 120 = .ok (.isub, 1) := by decide +kernel
theorem dX6_orderBy_121 : decode cX6_orderBy 121 = .ok (.idiv, 1) := by decide +kernel
theorem dX6_orderBy_122 : decode cX6_orderBy 122 = .ok (.goto 4, 3) := by decide +kernel
theorem dX6_orderBy_125 : decode cX6_orderBy 125 = .ok (.iconst 1, 1) := by decide +kernel
theorem dX6_orderBy_126 : decode cX6_orderBy 126 = .ok (.istore_n 3, 1) := by decide +kernel
theorem dX6_orderBy_127 : decode cX6_orderBy 127 = .ok (.iinc 5 1, 3) := by decide +kernel
theorem dX6_orderBy_130 : decode cX6_orderBy 130 = .ok (.goto (-112), 3) := by decide +kernel
theorem dX6_orderBy_133 : decode cX6_orderBy 133 = .ok (.return_, 1) := by decide +kernel
set_option maxRecDepth 20000 in
theorem ggX6_orders_X6_within : GoodIn wsX6_orders wsX6_within := goodIn_r _ [6] (by decide +kernel) (by decide +kernel)
set_option maxRecDepth 20000 in
theorem gX6_orders_X6_within : GoodIn wsX6_orders (va_wsS RX6 52 yX6_within wsX6_within) := goodIn_app (goodIn_of _ (by decide +kernel)) ggX6_orders_X6_within
set_option maxRecDepth 20000 in
theorem ggX6_orders_X6_ordersOf : GoodIn wsX6_orders wsX6_ordersOf := goodIn_r _ [9] (by decide +kernel) (by decide +kernel)
set_option maxRecDepth 20000 in
theorem gX6_orders_X6_ordersOf : GoodIn wsX6_orders (va_wsS RX6 191 yX6_ordersOf wsX6_ordersOf) := goodIn_app (goodIn_of _ (by decide +kernel)) ggX6_orders_X6_ordersOf
set_option maxRecDepth 20000 in
theorem ggX6_orders_X6_orderBy : GoodIn wsX6_orders wsX6_orderBy := goodIn_r _ [13, 1, 2, 7, 8, 5, 9, 14, 15, 16, 48, 49, 50, 51, 52, 53, 54, 55, 56, 57, 58, 59, 60, 61, 62, 63, 64, 65, 66, 67, 68, 69, 70, 71, 72, 73] (by decide +kernel) (by decide +kernel)
set_option maxRecDepth 20000 in
theorem gX6_orders_X6_orderBy : GoodIn wsX6_orders (wsV RX6 194 RX6 yX6_orderBy wsX6_orderBy) := goodIn_app (goodIn_of _ (by decide +kernel)) ggX6_orders_X6_orderBy
set_option maxRecDepth 20000 in
theorem ggX6_orders_X6_areSo : GoodIn wsX6_orders wsX6_areSo := goodIn_r _ [20, 21, 22, 23, 24, 25, 26, 27, 5, 28, 1, 2, 29, 30, 31, 32, 33, 34, 35, 36, 37, 38, 14, 15, 16, 39, 40, 41, 42, 43, 44, 45, 46, 47, 48, 49, 50, 51, 52, 53, 54, 55, 56, 57, 58, 59, 60, 61, 62, 63, 64, 65, 66, 67, 68, 69, 70, 71, 72, 73] (by decide +kernel) (by decide +kernel)
set_option maxRecDepth 20000 in
theorem gX6_orders_X6_areSo : GoodIn wsX6_orders (wsV RX6 198 RX6 yX6_areSo wsX6_areSo) := goodIn_app (goodIn_of _ (by decide +kernel)) ggX6_orders_X6_areSo
theorem dX6_orders_0 : decode cX6_orders 0 = .ok (.iload_n 1, 1) := by decide +kernel
theorem dX6_orders_1 : decode cX6_orders 1 = .ok (.iconst (-1), 1) := by decide +kernel
theorem dX6_orders_2 : decode cX6_orders 2 = .ok (.iconst 5, 1) := by decide +kernel
theorem dX6_orders_3 : decode cX6_orders 3 = .ok (.invokestatic 52, 3) := by decide +kernel
theorem dX6_orders_6 : decode cX6_orders 6 = .ok (.ifCond .ne 6, 3) := by decide +kernel
theorem dX6_orders_9 : decode cX6_orders 9 = .ok (.bipush (-2), 2) := by decide +kernel
theorem dX6_orders_11 : decode cX6_orders 11 = .ok (.ireturn, 1) := by decide +kernel
theorem dX6_orders_12 : decode cX6_orders 12 = .ok (.aload_n 0, 1) := by decide +kernel
theorem dX6_orders_13 : decode cX6_orders 13 = .ok (.getfield 56, 3) := by decide +kernel
theorem dX6_orders_16 : decode cX6_orders 16 = .ok (.ifCond .ne 6, 3) := by decide +kernel
theorem dX6_orders_19 : decode cX6_orders 19 = .ok (.bipush (-3), 2) := by decide +kernel
theorem dX6_orders_21 : decode cX6_orders 21 = .ok (.ireturn, 1) := by decide +kernel
theorem dX6_orders_22 : decode cX6_orders 22 = .ok (.iconst 0, 1) := by decide +kernel
theorem dX6_orders_23 : decode cX6_orders 23 = .ok (.istore_n 2, 1) := by decide +kernel
theorem dX6_orders_24 : decode cX6_orders 24 = .ok (.bipush (-9), 2) := by decide +kernel
theorem dX6_orders_26 : decode cX6_orders 26 = .ok (.istore_n 3, 1) := by decide +kernel
theorem dX6_orders_27 : decode cX6_orders 27 = .ok (.iconst 0, 1) := by decide +kernel
theorem dX6_orders_28 : decode cX6_orders 28 = .ok (.istore 4, 2) := by decide +kernel
theorem dX6_orders_30 : decode cX6_orders 30 = .ok (.iload 4, 2) := by decide +kernel
theorem dX6_orders_32 : decode cX6_orders 32 = .ok (.aload_n 0, 1) := by decide +kernel
theorem dX6_orders_33 : decode cX6_orders 33 = .ok (.getfield 56, 3) := by decide +kernel
theorem dX6_orders_36 : decode cX6_orders 36 = .ok (.invokestatic 191, 3) := by decide +kernel
theorem dX6_orders_39 : decode cX6_orders 39 = .ok (.if_icmp .ge 52, 3) := by decide +kernel
theorem dX6_orders_42 : decode cX6_orders 42 = .ok (.aload_n 0, 1) := by decide +kernel
theorem dX6_orders_43 : decode cX6_orders 43 = .ok (.iload 4, 2) := by decide +kernel
theorem dX6_orders_45 : decode cX6_orders 45 = .ok (.invokevirtual 194, 3) := by decide +kernel
theorem dX6_orders_48 : decode cX6_orders 48 = .ok (.aload_n 0, 1) := by decide +kernel
theorem dX6_orders_49 : decode cX6_orders 49 = .ok (.invokevirtual 198, 3) := by decide +kernel
theorem dX6_orders_52 : decode cX6_orders 52 = .ok (.ifCond .eq 33, 3) := by decide +kernel
theorem dX6_orders_55 : decode cX6_orders 55 = .ok (.iload_n 2, 1) := by decide +kernel
theorem dX6_orders_56 : decode cX6_orders 56 = .ok (.ifCond .ne 24, 3) := by decide +kernel
theorem dX6_orders_59 : decode cX6_orders 59 = .ok (.iload_n 1, 1) := by decide +kernel
theorem dX6_orders_60 : decode cX6_orders 60 = .ok (.ifCond .lt 20, 3) := by decide +kernel
theorem dX6_orders_63 : decode cX6_orders 63 = .ok (.iload_n 1, 1) := by decide +kernel
theorem dX6_orders_64 : decode cX6_orders 64 = .ok (.aload_n 0, 1) := by decide +kernel
theorem dX6_orders_65 : decode cX6_orders 65 = .ok (.getfield 56, 3) := by decide +kernel
theorem dX6_orders_68 : decode cX6_orders 68 = .ok (.if_icmp .ge 12, 3) := by decide +kernel
theorem dX6_orders_71 : decode cX6_orders 71 = .ok (.aload_n 0, 1) := by decide +kernel
theorem dX6_orders_72 : decode cX6_orders 72 = .ok (.getfield 31, 3) := by decide +kernel
theorem dX6_orders_75 : decode cX6_orders 75 = .ok (.iload_n 1, 1) := by decide +kernel
theorem dX6_orders_76 : decode cX6_orders 76 = .ok (.iaload, 1) := by decide +kernel
theorem dX6_orders_77 : decode cX6_orders 77 = .ok (.goto 4, 3) := by decide +kernel
theorem dX6_orders_80 : decode cX6_orders 80 = .ok (.iload_n 3, 1) := by decide +kernel
theorem dX6_orders_81 : decode cX6_orders 81 = .ok (.istore_n 3, 1) := by decide +kernel
theorem dX6_orders_82 : decode cX6_orders 82 = .ok (.iinc 2 1, 3) := by decide +kernel
theorem dX6_orders_85 : decode cX6_orders 85 = .ok (.iinc 4 1, 3) := by decide +kernel
theorem dX6_orders_88 : decode cX6_orders 88 = .ok (.goto (-58), 3) := by decide +kernel
theorem dX6_orders_91 : decode cX6_orders 91 = .ok (.iload_n 1, 1) := by decide +kernel
theorem dX6_orders_92 : decode cX6_orders 92 = .ok (.iconst (-1), 1) := by decide +kernel
theorem dX6_orders_93 : decode cX6_orders 93 = .ok (.if_icmp .ne 7, 3) := by decide +kernel
theorem dX6_orders_96 : decode cX6_orders 96 = .ok (.iload_n 2, 1) := by decide +kernel
theorem dX6_orders_97 : decode cX6_orders 97 = .ok (.goto 4, 3) := by decide +kernel
theorem dX6_orders_100 : decode cX6_orders 100 = .ok (.iload_n 3, 1) := by decide +kernel
theorem dX6_orders_101 : decode cX6_orders 101 = .ok (.ireturn, 1) := by decide +kernel
set_option maxRecDepth 20000 in
theorem ggX6_holds_X6_isLayer : GoodIn wsX6_holds wsX6_isLayer := goodIn_r _ [6, 7, 46, 47, 48, 49, 50, 51, 52, 53, 54, 55, 56, 57, 58, 59, 60, 61, 62, 63, 64, 65, 66, 67, 68, 69, 70, 71] (by decide +kernel) (by decide +kernel)
set_option maxRecDepth 20000 in
theorem gX6_holds_X6_isLayer : GoodIn wsX6_holds (wsV RX6 131 RX6 yX6_isLayer wsX6_isLayer) := goodIn_app (goodIn_of _ (by decide +kernel)) ggX6_holds_X6_isLayer
set_option maxRecDepth 20000 in
theorem ggX6_holds_X6_orderAsIs : GoodIn wsX6_holds wsX6_orderAsIs := goodIn_r _ [11, 7, 12, 46, 47, 48, 49, 50, 51, 52, 53, 54, 55, 56, 57, 58, 59, 60, 61, 62, 63, 64, 65, 66, 67, 68, 69, 70, 71] (by decide +kernel) (by decide +kernel)
set_option maxRecDepth 20000 in
theorem gX6_holds_X6_orderAsIs : GoodIn wsX6_holds (wsV RX6 128 RX6 yX6_orderAsIs wsX6_orderAsIs) := goodIn_app (goodIn_of _ (by decide +kernel)) ggX6_holds_X6_orderAsIs
set_option maxRecDepth 20000 in
theorem ggX6_holds_X6_areSo : GoodIn wsX6_holds wsX6_areSo := goodIn_r _ [16, 17, 18, 19, 20, 21, 22, 23, 5, 24, 7, 12, 25, 26, 27, 28, 29, 30, 31, 32, 33, 34, 35, 36, 37, 38, 39, 40, 41, 1, 42, 43, 44, 45, 46, 47, 48, 49, 50, 51, 52, 53, 54, 55, 56, 57, 58, 59, 60, 61, 62, 63, 64, 65, 66, 67, 68, 69, 70, 71] (by decide +kernel) (by decide +kernel)
set_option maxRecDepth 20000 in
theorem gX6_holds_X6_areSo : GoodIn wsX6_holds (wsV RX6 198 RX6 yX6_areSo wsX6_areSo) := goodIn_app (goodIn_of _ (by decide +kernel)) ggX6_holds_X6_areSo
theorem dX6_holds_0 : decode cX6_holds 0 = .ok (.aload_n 0, 1) := by decide +kernel
theorem dX6_holds_1 : decode cX6_holds 1 = .ok (.iload_n 1, 1) := by decide +kernel
theorem dX6_holds_2 : decode cX6_holds 2 = .ok (.invokevirtual 131, 3) := by decide +kernel
theorem dX6_holds_5 : decode cX6_holds 5 = .ok (.ifCond .ne 5, 3) := by decide +kernel
theorem dX6_holds_8 : decode cX6_holds 8 = .ok (.iconst (-1), 1) := by decide +kernel
theorem dX6_holds_9 : decode cX6_holds 9 = .ok (.ireturn, 1) := by decide +kernel
theorem dX6_holds_10 : decode cX6_holds 10 = .ok (.aload_n 0, 1) := by decide +kernel
theorem dX6_holds_11 : decode cX6_holds 11 = .ok (.invokevirtual 128, 3) := by decide +kernel
theorem dX6_holds_14 : decode cX6_holds 14 = .ok (.aload_n 0, 1) := by decide +kernel
theorem dX6_holds_15 : decode cX6_holds 15 = .ok (.getfield 22, 3) := by decide +kernel
theorem dX6_holds_18 : decode cX6_holds 18 = .ok (.iload_n 1, 1) := by decide +kernel
theorem dX6_holds_19 : decode cX6_holds 19 = .ok (.iaload, 1) := by decide +kernel
theorem dX6_holds_20 : decode cX6_holds 20 = .ok (.istore_n 2, 1) := by decide +kernel
theorem dX6_holds_21 : decode cX6_holds 21 = .ok (.iconst 0, 1) := by decide +kernel
theorem dX6_holds_22 : decode cX6_holds 22 = .ok (.istore_n 3, 1) := by decide +kernel
theorem dX6_holds_23 : decode cX6_holds 23 = .ok (.iconst 0, 1) := by decide +kernel
theorem dX6_holds_24 : decode cX6_holds 24 = .ok (.istore 4, 2) := by decide +kernel
theorem dX6_holds_26 : decode cX6_holds 26 = .ok (.iload 4, 2) := by decide +kernel
theorem dX6_holds_28 : decode cX6_holds 28 = .ok (.bipush 9, 2) := by decide +kernel
theorem dX6_holds_30 : decode cX6_holds 30 = .ok (.if_icmp .gt 35, 3) := by decide +kernel
theorem dX6_holds_33 : decode cX6_holds 33 = .ok (.aload_n 0, 1) := by decide +kernel
theorem dX6_holds_34 : decode cX6_holds 34 = .ok (.getfield 22, 3) := by decide +kernel
theorem dX6_holds_37 : decode cX6_holds 37 = .ok (.iload_n 1, 1) := by decide +kernel
theorem dX6_holds_38 : decode cX6_holds 38 = .ok (.iload 4, 2) := by decide +kernel
theorem dX6_holds_40 : decode cX6_holds 40 = .ok (.iastore, 1) := by decide +kernel
theorem dX6_holds_41 : decode cX6_holds 41 = .ok (.iload_n 3, 1) := by decide +kernel
theorem dX6_holds_42 : decode cX6_holds 42 = .ok (.aload_n 0, 1) := by decide +kernel
theorem dX6_holds_43 : decode cX6_holds 43 = .ok (.invokevirtual 198, 3) := by decide +kernel
theorem dX6_holds_46 : decode cX6_holds 46 = .ok (.ifCond .eq 10, 3) := by decide +kernel
theorem dX6_holds_49 : decode cX6_holds 49 = .ok (.iconst 1, 1) := by decide +kernel
theorem dX6_holds_50 : decode cX6_holds 50 = .ok (.iload 4, 2) := by decide +kernel
theorem dX6_holds_52 : decode cX6_holds 52 = .ok (.ishl, 1) := by decide +kernel
theorem dX6_holds_53 : decode cX6_holds 53 = .ok (.goto 4, 3) := by decide +kernel
theorem dX6_holds_56 : decode cX6_holds 56 = .ok (.iconst 0, 1) := by decide +kernel
theorem dX6_holds_57 : decode cX6_holds 57 = .ok (.ior, 1) := by decide +kernel
theorem dX6_holds_58 : decode cX6_holds 58 = .ok (.istore_n 3, 1) := by decide +kernel
theorem dX6_holds_59 : decode cX6_holds 59 = .ok (.iinc 4 1, 3) := by decide +kernel
theorem dX6_holds_62 : decode cX6_holds 62 = .ok (.goto (-36), 3) := by decide +kernel
theorem dX6_holds_65 : decode cX6_holds 65 = .ok (.aload_n 0, 1) := by decide +kernel
theorem dX6_holds_66 : decode cX6_holds 66 = .ok (.getfield 22, 3) := by decide +kernel
theorem dX6_holds_69 : decode cX6_holds 69 = .ok (.iload_n 1, 1) := by decide +kernel
theorem dX6_holds_70 : decode cX6_holds 70 = .ok (.iload_n 2, 1) := by decide +kernel
theorem dX6_holds_71 : decode cX6_holds 71 = .ok (.iastore, 1) := by decide +kernel
theorem dX6_holds_72 : decode cX6_holds 72 = .ok (.iload_n 3, 1) := by decide +kernel
theorem dX6_holds_73 : decode cX6_holds 73 = .ok (.ireturn, 1) := by decide +kernel
set_option maxRecDepth 20000 in
theorem ggX6_advices_X6_isLayer : GoodIn wsX6_advices wsX6_isLayer := goodIn_r _ [6, 7, 46, 47, 48, 49, 50, 51, 52, 53, 54, 55, 56, 57, 58, 59, 60, 61, 62, 63, 64, 65, 66, 67, 68, 69, 70, 71] (by decide +kernel) (by decide +kernel)
set_option maxRecDepth 20000 in
theorem gX6_advices_X6_isLayer : GoodIn wsX6_advices (wsV RX6 131 RX6 yX6_isLayer wsX6_isLayer) := goodIn_app (goodIn_of _ (by decide +kernel)) ggX6_advices_X6_isLayer
set_option maxRecDepth 20000 in
theorem ggX6_advices_X6_orderAsIs : GoodIn wsX6_advices wsX6_orderAsIs := goodIn_r _ [11, 7, 12, 46, 47, 48, 49, 50, 51, 52, 53, 54, 55, 56, 57, 58, 59, 60, 61, 62, 63, 64, 65, 66, 67, 68, 69, 70, 71] (by decide +kernel) (by decide +kernel)
set_option maxRecDepth 20000 in
theorem gX6_advices_X6_orderAsIs : GoodIn wsX6_advices (wsV RX6 128 RX6 yX6_orderAsIs wsX6_orderAsIs) := goodIn_app (goodIn_of _ (by decide +kernel)) ggX6_advices_X6_orderAsIs
set_option maxRecDepth 20000 in
theorem ggX6_advices_X6_areSo : GoodIn wsX6_advices wsX6_areSo := goodIn_r _ [16, 17, 18, 19, 20, 21, 22, 23, 5, 24, 7, 12, 1, 25, 26, 27, 28, 29, 30, 31, 32, 33, 34, 35, 36, 37, 38, 39, 40, 41, 42, 43, 44, 45, 46, 47, 48, 49, 50, 51, 52, 53, 54, 55, 56, 57, 58, 59, 60, 61, 62, 63, 64, 65, 66, 67, 68, 69, 70, 71] (by decide +kernel) (by decide +kernel)
set_option maxRecDepth 20000 in
theorem gX6_advices_X6_areSo : GoodIn wsX6_advices (wsV RX6 198 RX6 yX6_areSo wsX6_areSo) := goodIn_app (goodIn_of _ (by decide +kernel)) ggX6_advices_X6_areSo
theorem dX6_advices_0 : decode cX6_advices 0 = .ok (.aload_n 0, 1) := by decide +kernel
theorem dX6_advices_1 : decode cX6_advices 1 = .ok (.iload_n 1, 1) := by decide +kernel
theorem dX6_advices_2 : decode cX6_advices 2 = .ok (.invokevirtual 131, 3) := by decide +kernel
theorem dX6_advices_5 : decode cX6_advices 5 = .ok (.ifCond .ne 5, 3) := by decide +kernel
theorem dX6_advices_8 : decode cX6_advices 8 = .ok (.iconst (-1), 1) := by decide +kernel
theorem dX6_advices_9 : decode cX6_advices 9 = .ok (.ireturn, 1) := by decide +kernel
theorem dX6_advices_10 : decode cX6_advices 10 = .ok (.aload_n 0, 1) := by decide +kernel
theorem dX6_advices_11 : decode cX6_advices 11 = .ok (.invokevirtual 128, 3) := by decide +kernel
theorem dX6_advices_14 : decode cX6_advices 14 = .ok (.aload_n 0, 1) := by decide +kernel
theorem dX6_advices_15 : decode cX6_advices 15 = .ok (.getfield 25, 3) := by decide +kernel
theorem dX6_advices_18 : decode cX6_advices 18 = .ok (.iload_n 1, 1) := by decide +kernel
theorem dX6_advices_19 : decode cX6_advices 19 = .ok (.iaload, 1) := by decide +kernel
theorem dX6_advices_20 : decode cX6_advices 20 = .ok (.istore_n 2, 1) := by decide +kernel
theorem dX6_advices_21 : decode cX6_advices 21 = .ok (.iconst 0, 1) := by decide +kernel
theorem dX6_advices_22 : decode cX6_advices 22 = .ok (.istore_n 3, 1) := by decide +kernel
theorem dX6_advices_23 : decode cX6_advices 23 = .ok (.iconst 0, 1) := by decide +kernel
theorem dX6_advices_24 : decode cX6_advices 24 = .ok (.istore 4, 2) := by decide +kernel
theorem dX6_advices_26 : decode cX6_advices 26 = .ok (.iload 4, 2) := by decide +kernel
theorem dX6_advices_28 : decode cX6_advices 28 = .ok (.bipush 9, 2) := by decide +kernel
theorem dX6_advices_30 : decode cX6_advices 30 = .ok (.if_icmp .gt 35, 3) := by decide +kernel
theorem dX6_advices_33 : decode cX6_advices 33 = .ok (.aload_n 0, 1) := by decide +kernel
theorem dX6_advices_34 : decode cX6_advices 34 = .ok (.getfield 25, 3) := by decide +kernel
theorem dX6_advices_37 : decode cX6_advices 37 = .ok (.iload_n 1, 1) := by decide +kernel
theorem dX6_advices_38 : decode cX6_advices 38 = .ok (.iload 4, 2) := by decide +kernel
theorem dX6_advices_40 : decode cX6_advices 40 = .ok (.iastore, 1) := by decide +kernel
theorem dX6_advices_41 : decode cX6_advices 41 = .ok (.iload_n 3, 1) := by decide +kernel
theorem dX6_advices_42 : decode cX6_advices 42 = .ok (.aload_n 0, 1) := by decide +kernel
theorem dX6_advices_43 : decode cX6_advices 43 = .ok (.invokevirtual 198, 3) := by decide +kernel
theorem dX6_advices_46 : decode cX6_advices 46 = .ok (.ifCond .eq 10, 3) := by decide +kernel
theorem dX6_advices_49 : decode cX6_advices 49 = .ok (.iconst 1, 1) := by decide +kernel
theorem dX6_advices_50 : decode cX6_advices 50 = .ok (.iload 4, 2) := by decide +kernel
theorem dX6_advices_52 : decode cX6_advices 52 = .ok (.ishl, 1) := by decide +kernel
theorem dX6_advices_53 : decode cX6_advices 53 = .ok (.goto 4, 3) := by decide +kernel
theorem dX6_advices_56 : decode cX6_advices 56 = .ok (.iconst 0, 1) := by decide +kernel
theorem dX6_advices_57 : decode cX6_advices 57 = .ok (.ior, 1) := by decide +kernel
theorem dX6_advices_58 : decode cX6_advices 58 = .ok (.istore_n 3, 1) := by decide +kernel
theorem dX6_advices_59 : decode cX6_advices 59 = .ok (.iinc 4 1, 3) := by decide +kernel
theorem dX6_advices_62 : decode cX6_advices 62 = .ok (.goto (-36), 3) := by decide +kernel
theorem dX6_advices_65 : decode cX6_advices 65 = .ok (.aload_n 0, 1) := by decide +kernel
theorem dX6_advices_66 : decode cX6_advices 66 = .ok (.getfield 25, 3) := by decide +kernel
theorem dX6_advices_69 : decode cX6_advices 69 = .ok (.iload_n 1, 1) := by decide +kernel
theorem dX6_advices_70 : decode cX6_advices 70 = .ok (.iload_n 2, 1) := by decide +kernel
theorem dX6_advices_71 : decode cX6_advices 71 = .ok (.iastore, 1) := by decide +kernel
theorem dX6_advices_72 : decode cX6_advices 72 = .ok (.iload_n 3, 1) := by decide +kernel
theorem dX6_advices_73 : decode cX6_advices 73 = .ok (.ireturn, 1) := by decide +kernel
set_option maxRecDepth 20000 in
theorem ggX6_kinds_X6_isLayer : GoodIn wsX6_kinds wsX6_isLayer := goodIn_r _ [6, 7, 46, 47, 48, 49, 50, 51, 52, 53, 54, 55, 56, 57, 58, 59, 60, 61, 62, 63, 64, 65, 66, 67, 68, 69, 70, 71] (by decide +kernel) (by decide +kernel)
set_option maxRecDepth 20000 in
theorem gX6_kinds_X6_isLayer : GoodIn wsX6_kinds (wsV RX6 131 RX6 yX6_isLayer wsX6_isLayer) := goodIn_app (goodIn_of _ (by decide +kernel)) ggX6_kinds_X6_isLayer
set_option maxRecDepth 20000 in
theorem ggX6_kinds_X6_orderAsIs : GoodIn wsX6_kinds wsX6_orderAsIs := goodIn_r _ [11, 7, 12, 46, 47, 48, 49, 50, 51, 52, 53, 54, 55, 56, 57, 58, 59, 60, 61, 62, 63, 64, 65, 66, 67, 68, 69, 70, 71] (by decide +kernel) (by decide +kernel)
set_option maxRecDepth 20000 in
theorem gX6_kinds_X6_orderAsIs : GoodIn wsX6_kinds (wsV RX6 128 RX6 yX6_orderAsIs wsX6_orderAsIs) := goodIn_app (goodIn_of _ (by decide +kernel)) ggX6_kinds_X6_orderAsIs
set_option maxRecDepth 20000 in
theorem ggX6_kinds_X6_areSo : GoodIn wsX6_kinds wsX6_areSo := goodIn_r _ [16, 17, 18, 19, 20, 21, 22, 23, 5, 24, 7, 12, 25, 26, 27, 28, 29, 1, 30, 31, 32, 33, 34, 35, 36, 37, 38, 39, 40, 41, 42, 43, 44, 45, 46, 47, 48, 49, 50, 51, 52, 53, 54, 55, 56, 57, 58, 59, 60, 61, 62, 63, 64, 65, 66, 67, 68, 69, 70, 71] (by decide +kernel) (by decide +kernel)
set_option maxRecDepth 20000 in
theorem gX6_kinds_X6_areSo : GoodIn wsX6_kinds (wsV RX6 198 RX6 yX6_areSo wsX6_areSo) := goodIn_app (goodIn_of _ (by decide +kernel)) ggX6_kinds_X6_areSo
theorem dX6_kinds_0 : decode cX6_kinds 0 = .ok (.aload_n 0, 1) := by decide +kernel
theorem dX6_kinds_1 : decode cX6_kinds 1 = .ok (.iload_n 1, 1) := by decide +kernel
theorem dX6_kinds_2 : decode cX6_kinds 2 = .ok (.invokevirtual 131, 3) := by decide +kernel
theorem dX6_kinds_5 : decode cX6_kinds 5 = .ok (.ifCond .ne 5, 3) := by decide +kernel
theorem dX6_kinds_8 : decode cX6_kinds 8 = .ok (.iconst (-1), 1) := by decide +kernel
theorem dX6_kinds_9 : decode cX6_kinds 9 = .ok (.ireturn, 1) := by decide +kernel
theorem dX6_kinds_10 : decode cX6_kinds 10 = .ok (.aload_n 0, 1) := by decide +kernel
theorem dX6_kinds_11 : decode cX6_kinds 11 = .ok (.invokevirtual 128, 3) := by decide +kernel
theorem dX6_kinds_14 : decode cX6_kinds 14 = .ok (.aload_n 0, 1) := by decide +kernel
theorem dX6_kinds_15 : decode cX6_kinds 15 = .ok (.getfield 19, 3) := by decide +kernel
theorem dX6_kinds_18 : decode cX6_kinds 18 = .ok (.iload_n 1, 1) := by decide +kernel
theorem dX6_kinds_19 : decode cX6_kinds 19 = .ok (.iaload, 1) := by decide +kernel
theorem dX6_kinds_20 : decode cX6_kinds 20 = .ok (.istore_n 2, 1) := by decide +kernel
theorem dX6_kinds_21 : decode cX6_kinds 21 = .ok (.iconst 0, 1) := by decide +kernel
theorem dX6_kinds_22 : decode cX6_kinds 22 = .ok (.istore_n 3, 1) := by decide +kernel
theorem dX6_kinds_23 : decode cX6_kinds 23 = .ok (.iconst 0, 1) := by decide +kernel
theorem dX6_kinds_24 : decode cX6_kinds 24 = .ok (.istore 4, 2) := by decide +kernel
theorem dX6_kinds_26 : decode cX6_kinds 26 = .ok (.iload 4, 2) := by decide +kernel
theorem dX6_kinds_28 : decode cX6_kinds 28 = .ok (.iconst 3, 1) := by decide +kernel
theorem dX6_kinds_29 : decode cX6_kinds 29 = .ok (.if_icmp .ge 35, 3) := by decide +kernel
theorem dX6_kinds_32 : decode cX6_kinds 32 = .ok (.aload_n 0, 1) := by decide +kernel
theorem dX6_kinds_33 : decode cX6_kinds 33 = .ok (.getfield 19, 3) := by decide +kernel
theorem dX6_kinds_36 : decode cX6_kinds 36 = .ok (.iload_n 1, 1) := by decide +kernel
theorem dX6_kinds_37 : decode cX6_kinds 37 = .ok (.iload 4, 2) := by decide +kernel
theorem dX6_kinds_39 : decode cX6_kinds 39 = .ok (.iastore, 1) := by decide +kernel
theorem dX6_kinds_40 : decode cX6_kinds 40 = .ok (.iload_n 3, 1) := by decide +kernel
theorem dX6_kinds_41 : decode cX6_kinds 41 = .ok (.aload_n 0, 1) := by decide +kernel
theorem dX6_kinds_42 : decode cX6_kinds 42 = .ok (.invokevirtual 198, 3) := by decide +kernel
theorem dX6_kinds_45 : decode cX6_kinds 45 = .ok (.ifCond .eq 10, 3) := by decide +kernel
theorem dX6_kinds_48 : decode cX6_kinds 48 = .ok (.iconst 1, 1) := by decide +kernel
theorem dX6_kinds_49 : decode cX6_kinds 49 = .ok (.iload 4, 2) := by decide +kernel
theorem dX6_kinds_51 : decode cX6_kinds 51 = .ok (.ishl, 1) := by decide +kernel
theorem dX6_kinds_52 : decode cX6_kinds 52 = .ok (.goto 4, 3) := by decide +kernel
theorem dX6_kinds_55 : decode cX6_kinds 55 = .ok (.iconst 0, 1) := by decide +kernel
theorem dX6_kinds_56 : decode cX6_kinds 56 = .ok (.ior, 1) := by decide +kernel
theorem dX6_kinds_57 : decode cX6_kinds 57 = .ok (.istore_n 3, 1) := by decide +kernel
theorem dX6_kinds_58 : decode cX6_kinds 58 = .ok (.iinc 4 1, 3) := by decide +kernel
theorem dX6_kinds_61 : decode cX6_kinds 61 = .ok (.goto (-35), 3) := by decide +kernel
theorem dX6_kinds_64 : decode cX6_kinds 64 = .ok (.aload_n 0, 1) := by decide +kernel
theorem dX6_kinds_65 : decode cX6_kinds 65 = .ok (.getfield 19, 3) := by decide +kernel
theorem dX6_kinds_68 : decode cX6_kinds 68 = .ok (.iload_n 1, 1) := by decide +kernel
theorem dX6_kinds_69 : decode cX6_kinds 69 = .ok (.iload_n 2, 1) := by decide +kernel
theorem dX6_kinds_70 : decode cX6_kinds 70 = .ok (.iastore, 1) := by decide +kernel
theorem dX6_kinds_71 : decode cX6_kinds 71 = .ok (.iload_n 3, 1) := by decide +kernel
theorem dX6_kinds_72 : decode cX6_kinds 72 = .ok (.ireturn, 1) := by decide +kernel
theorem dX6_inLeastTerms_0 : decode cX6_inLeastTerms 0 = .ok (.lload_n 0, 1) := by decide +kernel
theorem dX6_inLeastTerms_1 : decode cX6_inLeastTerms 1 = .ok (.lstore 5, 2) := by decide +kernel
theorem dX6_inLeastTerms_3 : decode cX6_inLeastTerms 3 = .ok (.lload_n 2, 1) := by decide +kernel
theorem dX6_inLeastTerms_4 : decode cX6_inLeastTerms 4 = .ok (.lstore 7, 2) := by decide +kernel
theorem dX6_inLeastTerms_6 : decode cX6_inLeastTerms 6 = .ok (.lload 7, 2) := by decide +kernel
theorem dX6_inLeastTerms_8 : decode cX6_inLeastTerms 8 = .ok (.lconst 0, 1) := by decide +kernel
theorem dX6_inLeastTerms_9 : decode cX6_inLeastTerms 9 = .ok (.lcmp, 1) := by decide +kernel
theorem dX6_inLeastTerms_10 : decode cX6_inLeastTerms 10 = .ok (.ifCond .eq 21, 3) := by decide +kernel
theorem dX6_inLeastTerms_13 : decode cX6_inLeastTerms 13 = .ok (.lload 5, 2) := by decide +kernel
theorem dX6_inLeastTerms_15 : decode cX6_inLeastTerms 15 = .ok (.lload 7, 2) := by decide +kernel
theorem dX6_inLeastTerms_17 : decode cX6_inLeastTerms 17 = .ok (.lrem, 1) := by decide +kernel
theorem dX6_inLeastTerms_18 : decode cX6_inLeastTerms 18 = .ok (.lstore 9, 2) := by decide +kernel
theorem dX6_inLeastTerms_20 : decode cX6_inLeastTerms 20 = .ok (.lload 7, 2) := by decide +kernel
theorem dX6_inLeastTerms_22 : decode cX6_inLeastTerms 22 = .ok (.lstore 5, 2) := by decide +kernel
theorem dX6_inLeastTerms_24 : decode cX6_inLeastTerms 24 = .ok (.lload 9, 2) := by decide +kernel
theorem dX6_inLeastTerms_26 : decode cX6_inLeastTerms 26 = .ok (.lstore 7, 2) := by decide +kernel
theorem dX6_inLeastTerms_28 : decode cX6_inLeastTerms 28 = .ok (.goto (-22), 3) := by decide +kernel
theorem dX6_inLeastTerms_31 : decode cX6_inLeastTerms 31 = .ok (.iload 4, 2) := by decide +kernel
theorem dX6_inLeastTerms_33 : decode cX6_inLeastTerms 33 = .ok (.ifCond .ne 10, 3) := by decide +kernel
theorem dX6_inLeastTerms_36 : decode cX6_inLeastTerms 36 = .ok (.lload_n 0, 1) := by decide +kernel
theorem dX6_inLeastTerms_37 : decode cX6_inLeastTerms 37 = .ok (.lload 5, 2) := by decide +kernel
theorem dX6_inLeastTerms_39 : decode cX6_inLeastTerms 39 = .ok (.ldiv, 1) := by decide +kernel
theorem dX6_inLeastTerms_40 : decode cX6_inLeastTerms 40 = .ok (.goto 7, 3) := by decide +kernel
theorem dX6_inLeastTerms_43 : decode cX6_inLeastTerms 43 = .ok (.lload_n 2, 1) := by decide +kernel
theorem dX6_inLeastTerms_44 : decode cX6_inLeastTerms 44 = .ok (.lload 5, 2) := by decide +kernel
theorem dX6_inLeastTerms_46 : decode cX6_inLeastTerms 46 = .ok (.ldiv, 1) := by decide +kernel
theorem dX6_inLeastTerms_47 : decode cX6_inLeastTerms 47 = .ok (.lreturn, 1) := by decide +kernel
set_option maxRecDepth 20000 in
theorem ggX6_odds_X6_isLayer : GoodIn wsX6_odds wsX6_isLayer := goodIn_r _ [8, 9, 38, 39, 40, 41, 42, 43, 44, 45, 46, 47, 48, 49, 50, 51, 52, 53, 54, 55, 56, 57, 58, 59, 60, 61, 62, 63] (by decide +kernel) (by decide +kernel)
set_option maxRecDepth 20000 in
theorem gX6_odds_X6_isLayer : GoodIn wsX6_odds (wsV RX6 131 RX6 yX6_isLayer wsX6_isLayer) := goodIn_app (goodIn_of _ (by decide +kernel)) ggX6_odds_X6_isLayer
set_option maxRecDepth 20000 in
theorem ggX6_odds_X6_within : GoodIn wsX6_odds wsX6_within := goodIn_r _ [12] (by decide +kernel) (by decide +kernel)
set_option maxRecDepth 20000 in
theorem gX6_odds_X6_within : GoodIn wsX6_odds (va_wsS RX6 52 yX6_within wsX6_within) := goodIn_app (goodIn_of _ (by decide +kernel)) ggX6_odds_X6_within
set_option maxRecDepth 20000 in
theorem ggX6_odds_X6_orderAsIs : GoodIn wsX6_odds wsX6_orderAsIs := goodIn_r _ [16, 9, 17, 38, 39, 40, 41, 42, 43, 44, 45, 46, 47, 48, 49, 50, 51, 52, 53, 54, 55, 56, 57, 58, 59, 60, 61, 62, 63] (by decide +kernel) (by decide +kernel)
set_option maxRecDepth 20000 in
theorem gX6_odds_X6_orderAsIs : GoodIn wsX6_odds (wsV RX6 128 RX6 yX6_orderAsIs wsX6_orderAsIs) := goodIn_app (goodIn_of _ (by decide +kernel)) ggX6_odds_X6_orderAsIs
set_option maxRecDepth 20000 in
theorem ggX6_odds_X6_heardBy : GoodIn wsX6_odds wsX6_heardBy := goodIn_r _ [21, 9, 17, 22, 23, 24, 25, 7, 26, 27, 28, 29, 30, 31, 32, 33, 34, 38, 39, 40, 41, 42, 43, 44, 45, 46, 47, 48, 49, 50, 51, 52, 53, 54, 55, 56, 57, 58, 59, 60, 61, 62, 63] (by decide +kernel) (by decide +kernel)
set_option maxRecDepth 20000 in
theorem gX6_odds_X6_heardBy : GoodIn wsX6_odds (wsV RX6 121 RX6 yX6_heardBy wsX6_heardBy) := goodIn_app (goodIn_of _ (by decide +kernel)) ggX6_odds_X6_heardBy
set_option maxRecDepth 20000 in
theorem ggX6_odds_X6_inLeastTerms : GoodIn wsX6_odds wsX6_inLeastTerms := goodIn_r _ [37] (by decide +kernel) (by decide +kernel)
set_option maxRecDepth 20000 in
theorem gX6_odds_X6_inLeastTerms : GoodIn wsX6_odds (va_wsS RX6 203 yX6_inLeastTerms wsX6_inLeastTerms) := goodIn_app (goodIn_of _ (by decide +kernel)) ggX6_odds_X6_inLeastTerms
theorem dX6_odds_0 : decode cX6_odds 0 = .ok (.aload_n 0, 1) := by decide +kernel
theorem dX6_odds_1 : decode cX6_odds 1 = .ok (.iload_n 1, 1) := by decide +kernel
theorem dX6_odds_2 : decode cX6_odds 2 = .ok (.invokevirtual 131, 3) := by decide +kernel
theorem dX6_odds_5 : decode cX6_odds 5 = .ok (.ifCond .eq 12, 3) := by decide +kernel
theorem dX6_odds_8 : decode cX6_odds 8 = .ok (.iload_n 2, 1) := by decide +kernel
theorem dX6_odds_9 : decode cX6_odds 9 = .ok (.iconst 0, 1) := by decide +kernel
theorem dX6_odds_10 : decode cX6_odds 10 = .ok (.iconst 1, 1) := by decide +kernel
theorem dX6_odds_11 : decode cX6_odds 11 = .ok (.invokestatic 52, 3) := by decide +kernel
theorem dX6_odds_14 : decode cX6_odds 14 = .ok (.ifCond .ne 7, 3) := by decide +kernel
theorem dX6_odds_17 : decode cX6_odds 17 = .ok (.ldc2_w 50, 3) := by decide +kernel
theorem dX6_odds_20 : decode cX6_odds 20 = .ok (.lreturn, 1) := by decide +kernel
theorem dX6_odds_21 : decode cX6_odds 21 = .ok (.aload_n 0, 1) := by decide +kernel
theorem dX6_odds_22 : decode cX6_odds 22 = .ok (.invokevirtual 128, 3) := by decide +kernel
theorem dX6_odds_25 : decode cX6_odds 25 = .ok (.iconst 0, 1) := by decide +kernel
theorem dX6_odds_26 : decode cX6_odds 26 = .ok (.istore_n 3, 1) := by decide +kernel
theorem dX6_odds_27 : decode cX6_odds 27 = .ok (.iconst 0, 1) := by decide +kernel
theorem dX6_odds_28 : decode cX6_odds 28 = .ok (.istore 4, 2) := by decide +kernel
theorem dX6_odds_30 : decode cX6_odds 30 = .ok (.iload 4, 2) := by decide +kernel
theorem dX6_odds_32 : decode cX6_odds 32 = .ok (.bipush 20, 2) := by decide +kernel
theorem dX6_odds_34 : decode cX6_odds 34 = .ok (.if_icmp .gt 27, 3) := by decide +kernel
theorem dX6_odds_37 : decode cX6_odds 37 = .ok (.iload_n 3, 1) := by decide +kernel
theorem dX6_odds_38 : decode cX6_odds 38 = .ok (.aload_n 0, 1) := by decide +kernel
theorem dX6_odds_39 : decode cX6_odds 39 = .ok (.iload 4, 2) := by decide +kernel
theorem dX6_odds_41 : decode cX6_odds 41 = .ok (.aload_n 0, 1) := by decide +kernel
theorem dX6_odds_42 : decode cX6_odds 42 = .ok (.getfield 92, 3) := by decide +kernel
theorem dX6_odds_45 : decode cX6_odds 45 = .ok (.iconst 0, 1) := by decide +kernel
theorem dX6_odds_46 : decode cX6_odds 46 = .ok (.invokevirtual 121, 3) := by decide +kernel
theorem dX6_odds_49 : decode cX6_odds 49 = .ok (.iload_n 1, 1) := by decide +kernel
theorem dX6_odds_50 : decode cX6_odds 50 = .ok (.ishr, 1) := by decide +kernel
theorem dX6_odds_51 : decode cX6_odds 51 = .ok (.iconst 1, 1) := by decide +kernel
theorem dX6_odds_52 : decode cX6_odds 52 = .ok (.iand, 1) := by decide +kernel
theorem dX6_odds_53 : decode cX6_odds 53 = .ok (.iadd, 1) := by decide +kernel
theorem dX6_odds_54 : decode cX6_odds 54 = .ok (.istore_n 3, 1) := by decide +kernel
theorem dX6_odds_55 : decode cX6_odds 55 = .ok (.iinc 4 1, 3) := by decide +kernel
theorem dX6_odds_58 : decode cX6_odds 58 = .ok (.goto (-28), 3) := by decide +kernel
theorem dX6_odds_61 : decode cX6_odds 61 = .ok (.iload_n 3, 1) := by decide +kernel
theorem dX6_odds_62 : decode cX6_odds 62 = .ok (.i2l, 1) := by decide +kernel
theorem dX6_odds_63 : decode cX6_odds 63 = .ok (.ldc2_w 201, 3) := by decide +kernel
theorem dX6_odds_66 : decode cX6_odds 66 = .ok (.iload_n 2, 1) := by decide +kernel
theorem dX6_odds_67 : decode cX6_odds 67 = .ok (.invokestatic 203, 3) := by decide +kernel
theorem dX6_odds_70 : decode cX6_odds 70 = .ok (.lreturn, 1) := by decide +kernel
set_option maxRecDepth 20000 in
theorem ggX6_sheet_X6_isSheet : GoodIn wsX6_sheet wsX6_isSheet := goodIn_r _ [8, 9, 10, 7, 11] (by decide +kernel) (by decide +kernel)
set_option maxRecDepth 20000 in
theorem gX6_sheet_X6_isSheet : GoodIn wsX6_sheet (va_wsS RX6 62 yX6_isSheet wsX6_isSheet) := goodIn_app (goodIn_of _ (by decide +kernel)) ggX6_sheet_X6_isSheet
set_option maxRecDepth 20000 in
theorem ggX6_sheet_X6_isSort : GoodIn wsX6_sheet wsX6_isSort := goodIn_r _ [14, 9, 10, 7, 11] (by decide +kernel) (by decide +kernel)
set_option maxRecDepth 20000 in
theorem gX6_sheet_X6_isSort : GoodIn wsX6_sheet (va_wsS RX6 66 yX6_isSort wsX6_isSort) := goodIn_app (goodIn_of _ (by decide +kernel)) ggX6_sheet_X6_isSort
set_option maxRecDepth 20000 in
theorem ggX6_sheet_X6_fails : GoodIn wsX6_sheet wsX6_fails := goodIn_r _ [18, 1, 19, 20, 21, 22, 23, 24, 25, 26, 27, 28, 29, 30, 31, 32, 33, 34, 35, 36, 37, 38, 39, 40, 41, 42, 43, 44] (by decide +kernel) (by decide +kernel)
set_option maxRecDepth 20000 in
theorem gX6_sheet_X6_fails : GoodIn wsX6_sheet (wsV RX6 73 RX6 yX6_fails wsX6_fails) := goodIn_app (goodIn_of _ (by decide +kernel)) ggX6_sheet_X6_fails
theorem dX6_sheet_0 : decode cX6_sheet 0 = .ok (.aload_n 0, 1) := by decide +kernel
theorem dX6_sheet_1 : decode cX6_sheet 1 = .ok (.iconst 0, 1) := by decide +kernel
theorem dX6_sheet_2 : decode cX6_sheet 2 = .ok (.putfield 46, 3) := by decide +kernel
theorem dX6_sheet_5 : decode cX6_sheet 5 = .ok (.iload_n 1, 1) := by decide +kernel
theorem dX6_sheet_6 : decode cX6_sheet 6 = .ok (.invokestatic 62, 3) := by decide +kernel
theorem dX6_sheet_9 : decode cX6_sheet 9 = .ok (.ifCond .ne 5, 3) := by decide +kernel
theorem dX6_sheet_12 : decode cX6_sheet 12 = .ok (.iconst (-1), 1) := by decide +kernel
theorem dX6_sheet_13 : decode cX6_sheet 13 = .ok (.ireturn, 1) := by decide +kernel
theorem dX6_sheet_14 : decode cX6_sheet 14 = .ok (.iload_n 2, 1) := by decide +kernel
theorem dX6_sheet_15 : decode cX6_sheet 15 = .ok (.invokestatic 66, 3) := by decide +kernel
theorem dX6_sheet_18 : decode cX6_sheet 18 = .ok (.ifCond .eq 9, 3) := by decide +kernel
theorem dX6_sheet_21 : decode cX6_sheet 21 = .ok (.iload_n 3, 1) := by decide +kernel
theorem dX6_sheet_22 : decode cX6_sheet 22 = .ok (.bipush 60, 2) := by decide +kernel
theorem dX6_sheet_24 : decode cX6_sheet 24 = .ok (.if_icmp .le 6, 3) := by decide +kernel
theorem dX6_sheet_27 : decode cX6_sheet 27 = .ok (.bipush (-2), 2) := by decide +kernel
theorem dX6_sheet_29 : decode cX6_sheet 29 = .ok (.ireturn, 1) := by decide +kernel
theorem dX6_sheet_30 : decode cX6_sheet 30 = .ok (.iload_n 3, 1) := by decide +kernel
theorem dX6_sheet_31 : decode cX6_sheet 31 = .ok (.ifCond .ge 9, 3) := by decide +kernel
theorem dX6_sheet_34 : decode cX6_sheet 34 = .ok (.aload_n 0, 1) := by decide +kernel
theorem dX6_sheet_35 : decode cX6_sheet 35 = .ok (.iconst 4, 1) := by decide +kernel
theorem dX6_sheet_36 : decode cX6_sheet 36 = .ok (.invokevirtual 73, 3) := by decide +kernel
theorem dX6_sheet_39 : decode cX6_sheet 39 = .ok (.ireturn, 1) := by decide +kernel
theorem dX6_sheet_40 : decode cX6_sheet 40 = .ok (.aload_n 0, 1) := by decide +kernel
theorem dX6_sheet_41 : decode cX6_sheet 41 = .ok (.getfield 9, 3) := by decide +kernel
theorem dX6_sheet_44 : decode cX6_sheet 44 = .ok (.iload_n 1, 1) := by decide +kernel
theorem dX6_sheet_45 : decode cX6_sheet 45 = .ok (.iload_n 2, 1) := by decide +kernel
theorem dX6_sheet_46 : decode cX6_sheet 46 = .ok (.iastore, 1) := by decide +kernel
theorem dX6_sheet_47 : decode cX6_sheet 47 = .ok (.aload_n 0, 1) := by decide +kernel
theorem dX6_sheet_48 : decode cX6_sheet 48 = .ok (.getfield 13, 3) := by decide +kernel
theorem dX6_sheet_51 : decode cX6_sheet 51 = .ok (.iload_n 1, 1) := by decide +kernel
theorem dX6_sheet_52 : decode cX6_sheet 52 = .ok (.iload_n 3, 1) := by decide +kernel
theorem dX6_sheet_53 : decode cX6_sheet 53 = .ok (.iastore, 1) := by decide +kernel
theorem dX6_sheet_54 : decode cX6_sheet 54 = .ok (.iconst 0, 1) := by decide +kernel
theorem dX6_sheet_55 : decode cX6_sheet 55 = .ok (.istore 4, 2) := by decide +kernel
theorem dX6_sheet_57 : decode cX6_sheet 57 = .ok (.iload 4, 2) := by decide +kernel
theorem dX6_sheet_59 : decode cX6_sheet 59 = .ok (.bipush 60, 2) := by decide +kernel
theorem dX6_sheet_61 : decode cX6_sheet 61 = .ok (.if_icmp .ge 22, 3) := by decide +kernel
theorem dX6_sheet_64 : decode cX6_sheet 64 = .ok (.aload_n 0, 1) := by decide +kernel
theorem dX6_sheet_65 : decode cX6_sheet 65 = .ok (.getfield 16, 3) := by decide +kernel
theorem dX6_sheet_68 : decode cX6_sheet 68 = .ok (.bipush 60, 2) := by decide +kernel
theorem dX6_sheet_70 : decode cX6_sheet 70 = .ok (.iload_n 1, 1) := by decide +kernel
theorem dX6_sheet_71 : decode cX6_sheet 71 = .ok (.imul, 1) := by decide +kernel
theorem dX6_sheet_72 : decode cX6_sheet 72 = .ok (.iload 4, 2) := by decide +kernel
theorem dX6_sheet_74 : decode cX6_sheet 74 = .ok (.iadd, 1) := by decide +kernel
theorem dX6_sheet_75 : decode cX6_sheet 75 = .ok (.iconst 0, 1) := by decide +kernel
theorem dX6_sheet_76 : decode cX6_sheet 76 = .ok (.iastore, 1) := by decide +kernel
theorem dX6_sheet_77 : decode cX6_sheet 77 = .ok (.iinc 4 1, 3) := by decide +kernel
theorem dX6_sheet_80 : decode cX6_sheet 80 = .ok (.goto (-23), 3) := by decide +kernel
theorem dX6_sheet_83 : decode cX6_sheet 83 = .ok (.iconst 1, 1) := by decide +kernel
theorem dX6_sheet_84 : decode cX6_sheet 84 = .ok (.ireturn, 1) := by decide +kernel
set_option maxRecDepth 20000 in
theorem ggX6_lose_X6_isSheet : GoodIn wsX6_lose wsX6_isSheet := goodIn_r _ [5, 6, 7, 4, 8] (by decide +kernel) (by decide +kernel)
set_option maxRecDepth 20000 in
theorem gX6_lose_X6_isSheet : GoodIn wsX6_lose (va_wsS RX6 62 yX6_isSheet wsX6_isSheet) := goodIn_app (goodIn_of _ (by decide +kernel)) ggX6_lose_X6_isSheet
theorem dX6_lose_0 : decode cX6_lose 0 = .ok (.iload_n 1, 1) := by decide +kernel
theorem dX6_lose_1 : decode cX6_lose 1 = .ok (.invokestatic 62, 3) := by decide +kernel
theorem dX6_lose_4 : decode cX6_lose 4 = .ok (.ifCond .ne 5, 3) := by decide +kernel
theorem dX6_lose_7 : decode cX6_lose 7 = .ok (.iconst (-1), 1) := by decide +kernel
theorem dX6_lose_8 : decode cX6_lose 8 = .ok (.ireturn, 1) := by decide +kernel
theorem dX6_lose_9 : decode cX6_lose 9 = .ok (.aload_n 0, 1) := by decide +kernel
theorem dX6_lose_10 : decode cX6_lose 10 = .ok (.getfield 9, 3) := by decide +kernel
theorem dX6_lose_13 : decode cX6_lose 13 = .ok (.iload_n 1, 1) := by decide +kernel
theorem dX6_lose_14 : decode cX6_lose 14 = .ok (.iaload, 1) := by decide +kernel
theorem dX6_lose_15 : decode cX6_lose 15 = .ok (.bipush (-9), 2) := by decide +kernel
theorem dX6_lose_17 : decode cX6_lose 17 = .ok (.if_icmp .ne 7, 3) := by decide +kernel
theorem dX6_lose_20 : decode cX6_lose 20 = .ok (.iconst 0, 1) := by decide +kernel
theorem dX6_lose_21 : decode cX6_lose 21 = .ok (.goto 4, 3) := by decide +kernel
theorem dX6_lose_24 : decode cX6_lose 24 = .ok (.iconst 1, 1) := by decide +kernel
theorem dX6_lose_25 : decode cX6_lose 25 = .ok (.istore_n 2, 1) := by decide +kernel
theorem dX6_lose_26 : decode cX6_lose 26 = .ok (.aload_n 0, 1) := by decide +kernel
theorem dX6_lose_27 : decode cX6_lose 27 = .ok (.getfield 9, 3) := by decide +kernel
theorem dX6_lose_30 : decode cX6_lose 30 = .ok (.iload_n 1, 1) := by decide +kernel
theorem dX6_lose_31 : decode cX6_lose 31 = .ok (.bipush (-9), 2) := by decide +kernel
theorem dX6_lose_33 : decode cX6_lose 33 = .ok (.iastore, 1) := by decide +kernel
theorem dX6_lose_34 : decode cX6_lose 34 = .ok (.iload_n 2, 1) := by decide +kernel
theorem dX6_lose_35 : decode cX6_lose 35 = .ok (.ireturn, 1) := by decide +kernel
set_option maxRecDepth 20000 in
theorem ggX6_put_X6_isSheet : GoodIn wsX6_put wsX6_isSheet := goodIn_r _ [8, 9, 10, 7, 11] (by decide +kernel) (by decide +kernel)
set_option maxRecDepth 20000 in
theorem gX6_put_X6_isSheet : GoodIn wsX6_put (va_wsS RX6 62 yX6_isSheet wsX6_isSheet) := goodIn_app (goodIn_of _ (by decide +kernel)) ggX6_put_X6_isSheet
set_option maxRecDepth 20000 in
theorem ggX6_put_X6_fails : GoodIn wsX6_put wsX6_fails := goodIn_r _ [15, 1, 16, 17, 18, 19, 20, 21, 22, 23, 24, 25, 26, 27, 28, 29, 30, 31, 32, 33, 34, 35, 36, 37, 38, 39, 40, 41] (by decide +kernel) (by decide +kernel)
set_option maxRecDepth 20000 in
theorem gX6_put_X6_fails : GoodIn wsX6_put (wsV RX6 73 RX6 yX6_fails wsX6_fails) := goodIn_app (goodIn_of _ (by decide +kernel)) ggX6_put_X6_fails
set_option maxRecDepth 20000 in
theorem ggX6_put_X6_within : GoodIn wsX6_put wsX6_within := goodIn_r _ [11] (by decide +kernel) (by decide +kernel)
set_option maxRecDepth 20000 in
theorem gX6_put_X6_within : GoodIn wsX6_put (va_wsS RX6 52 yX6_within wsX6_within) := goodIn_app (goodIn_of _ (by decide +kernel)) ggX6_put_X6_within
theorem dX6_put_0 : decode cX6_put 0 = .ok (.aload_n 0, 1) := by decide +kernel
theorem dX6_put_1 : decode cX6_put 1 = .ok (.iconst 0, 1) := by decide +kernel
theorem dX6_put_2 : decode cX6_put 2 = .ok (.putfield 46, 3) := by decide +kernel
theorem dX6_put_5 : decode cX6_put 5 = .ok (.iload_n 1, 1) := by decide +kernel
theorem dX6_put_6 : decode cX6_put 6 = .ok (.invokestatic 62, 3) := by decide +kernel
theorem dX6_put_9 : decode cX6_put 9 = .ok (.ifCond .ne 5, 3) := by decide +kernel
theorem dX6_put_12 : decode cX6_put 12 = .ok (.iconst (-1), 1) := by decide +kernel
theorem dX6_put_13 : decode cX6_put 13 = .ok (.ireturn, 1) := by decide +kernel
theorem dX6_put_14 : decode cX6_put 14 = .ok (.aload_n 0, 1) := by decide +kernel
theorem dX6_put_15 : decode cX6_put 15 = .ok (.getfield 9, 3) := by decide +kernel
theorem dX6_put_18 : decode cX6_put 18 = .ok (.iload_n 1, 1) := by decide +kernel
theorem dX6_put_19 : decode cX6_put 19 = .ok (.iaload, 1) := by decide +kernel
theorem dX6_put_20 : decode cX6_put 20 = .ok (.bipush (-9), 2) := by decide +kernel
theorem dX6_put_22 : decode cX6_put 22 = .ok (.if_icmp .ne 9, 3) := by decide +kernel
theorem dX6_put_25 : decode cX6_put 25 = .ok (.aload_n 0, 1) := by decide +kernel
theorem dX6_put_26 : decode cX6_put 26 = .ok (.iconst 1, 1) := by decide +kernel
theorem dX6_put_27 : decode cX6_put 27 = .ok (.invokevirtual 73, 3) := by decide +kernel
theorem dX6_put_30 : decode cX6_put 30 = .ok (.ireturn, 1) := by decide +kernel
theorem dX6_put_31 : decode cX6_put 31 = .ok (.iload_n 2, 1) := by decide +kernel
theorem dX6_put_32 : decode cX6_put 32 = .ok (.iconst 0, 1) := by decide +kernel
theorem dX6_put_33 : decode cX6_put 33 = .ok (.aload_n 0, 1) := by decide +kernel
theorem dX6_put_34 : decode cX6_put 34 = .ok (.getfield 13, 3) := by decide +kernel
theorem dX6_put_37 : decode cX6_put 37 = .ok (.iload_n 1, 1) := by decide +kernel
theorem dX6_put_38 : decode cX6_put 38 = .ok (.iaload, 1) := by decide +kernel
theorem dX6_put_39 : decode cX6_put 39 = .ok (.iconst 1, 1) := by decide +kernel
theorem dX6_put_40 : decode cX6_put 40 = .ok (.isub, 1) := by decide +kernel
theorem dX6_put_41 : decode cX6_put 41 = .ok (.invokestatic 52, 3) := by decide +kernel
theorem dX6_put_44 : decode cX6_put 44 = .ok (.ifCond .ne 9, 3) := by decide +kernel
theorem dX6_put_47 : decode cX6_put 47 = .ok (.aload_n 0, 1) := by decide +kernel
theorem dX6_put_48 : decode cX6_put 48 = .ok (.iconst 3, 1) := by decide +kernel
theorem dX6_put_49 : decode cX6_put 49 = .ok (.invokevirtual 73, 3) := by decide +kernel
theorem dX6_put_52 : decode cX6_put 52 = .ok (.ireturn, 1) := by decide +kernel
theorem dX6_put_53 : decode cX6_put 53 = .ok (.aload_n 0, 1) := by decide +kernel
theorem dX6_put_54 : decode cX6_put 54 = .ok (.getfield 16, 3) := by decide +kernel
theorem dX6_put_57 : decode cX6_put 57 = .ok (.bipush 60, 2) := by decide +kernel
theorem dX6_put_59 : decode cX6_put 59 = .ok (.iload_n 1, 1) := by decide +kernel
theorem dX6_put_60 : decode cX6_put 60 = .ok (.imul, 1) := by decide +kernel
theorem dX6_put_61 : decode cX6_put 61 = .ok (.iload_n 2, 1) := by decide +kernel
theorem dX6_put_62 : decode cX6_put 62 = .ok (.iadd, 1) := by decide +kernel
theorem dX6_put_63 : decode cX6_put 63 = .ok (.aload_n 0, 1) := by decide +kernel
theorem dX6_put_64 : decode cX6_put 64 = .ok (.getfield 9, 3) := by decide +kernel
theorem dX6_put_67 : decode cX6_put 67 = .ok (.iload_n 1, 1) := by decide +kernel
theorem dX6_put_68 : decode cX6_put 68 = .ok (.iaload, 1) := by decide +kernel
theorem dX6_put_69 : decode cX6_put 69 = .ok (.ifCond .ne 8, 3) := by decide +kernel
theorem dX6_put_72 : decode cX6_put 72 = .ok (.iload_n 3, 1) := by decide +kernel
theorem dX6_put_73 : decode cX6_put 73 = .ok (.i2b, 1) := by decide +kernel
theorem dX6_put_74 : decode cX6_put 74 = .ok (.goto 19, 3) := by decide +kernel
theorem dX6_put_77 : decode cX6_put 77 = .ok (.aload_n 0, 1) := by decide +kernel
theorem dX6_put_78 : decode cX6_put 78 = .ok (.getfield 9, 3) := by decide +kernel
theorem dX6_put_81 : decode cX6_put 81 = .ok (.iload_n 1, 1) := by decide +kernel
theorem dX6_put_82 : decode cX6_put 82 = .ok (.iaload, 1) := by decide +kernel
theorem dX6_put_83 : decode cX6_put 83 = .ok (.iconst 1, 1) := by decide +kernel
theorem dX6_put_84 : decode cX6_put 84 = .ok (.if_icmp .ne 8, 3) := by decide +kernel
theorem dX6_put_87 : decode cX6_put 87 = .ok (.iload_n 3, 1) := by decide +kernel
theorem dX6_put_88 : decode cX6_put 88 = .ok (.i2s, 1) := by decide +kernel
theorem dX6_put_89 : decode cX6_put 89 = .ok (.goto 4, 3) := by decide +kernel
theorem dX6_put_92 : decode cX6_put 92 = .ok (.iload_n 3, 1) := by decide +kernel
theorem dX6_put_93 : decode cX6_put 93 = .ok (.iastore, 1) := by decide +kernel
theorem dX6_put_94 : decode cX6_put 94 = .ok (.iconst 1, 1) := by decide +kernel
theorem dX6_put_95 : decode cX6_put 95 = .ok (.ireturn, 1) := by decide +kernel
set_option maxRecDepth 20000 in
theorem ggX6_cell_X6_isSheet : GoodIn wsX6_cell wsX6_isSheet := goodIn_r _ [9, 10, 11, 8, 12] (by decide +kernel) (by decide +kernel)
set_option maxRecDepth 20000 in
theorem gX6_cell_X6_isSheet : GoodIn wsX6_cell (va_wsS RX6 62 yX6_isSheet wsX6_isSheet) := goodIn_app (goodIn_of _ (by decide +kernel)) ggX6_cell_X6_isSheet
set_option maxRecDepth 20000 in
theorem ggX6_cell_X6_isSort : GoodIn wsX6_cell wsX6_isSort := goodIn_r _ [15, 10, 11, 8, 12] (by decide +kernel) (by decide +kernel)
set_option maxRecDepth 20000 in
theorem gX6_cell_X6_isSort : GoodIn wsX6_cell (va_wsS RX6 66 yX6_isSort wsX6_isSort) := goodIn_app (goodIn_of _ (by decide +kernel)) ggX6_cell_X6_isSort
set_option maxRecDepth 20000 in
theorem ggX6_cell_X6_lost : GoodIn wsX6_cell wsX6_lost := goodIn_r _ [19, 1, 2, 20, 21, 22, 23, 24, 25, 26, 27, 28, 29, 30, 31, 32, 33, 34, 35, 36, 37, 38, 39, 40, 41, 42, 43, 44, 45] (by decide +kernel) (by decide +kernel)
set_option maxRecDepth 20000 in
theorem gX6_cell_X6_lost : GoodIn wsX6_cell (wsV RX6 207 RX6 yX6_lost wsX6_lost) := goodIn_app (goodIn_of _ (by decide +kernel)) ggX6_cell_X6_lost
set_option maxRecDepth 20000 in
theorem ggX6_cell_X6_within : GoodIn wsX6_cell wsX6_within := goodIn_r _ [12] (by decide +kernel) (by decide +kernel)
set_option maxRecDepth 20000 in
theorem gX6_cell_X6_within : GoodIn wsX6_cell (va_wsS RX6 52 yX6_within wsX6_within) := goodIn_app (goodIn_of _ (by decide +kernel)) ggX6_cell_X6_within
theorem dX6_cell_0 : decode cX6_cell 0 = .ok (.aload_n 0, 1) := by decide +kernel
theorem dX6_cell_1 : decode cX6_cell 1 = .ok (.iconst 0, 1) := by decide +kernel
theorem dX6_cell_2 : decode cX6_cell 2 = .ok (.putfield 46, 3) := by decide +kernel
theorem dX6_cell_5 : decode cX6_cell 5 = .ok (.iload_n 1, 1) := by decide +kernel
theorem dX6_cell_6 : decode cX6_cell 6 = .ok (.invokestatic 62, 3) := by decide +kernel
theorem dX6_cell_9 : decode cX6_cell 9 = .ok (.ifCond .eq 10, 3) := by decide +kernel
theorem dX6_cell_12 : decode cX6_cell 12 = .ok (.iload_n 3, 1) := by decide +kernel
theorem dX6_cell_13 : decode cX6_cell 13 = .ok (.invokestatic 66, 3) := by decide +kernel
theorem dX6_cell_16 : decode cX6_cell 16 = .ok (.ifCond .ne 7, 3) := by decide +kernel
theorem dX6_cell_19 : decode cX6_cell 19 = .ok (.ldc2_w 50, 3) := by decide +kernel
theorem dX6_cell_22 : decode cX6_cell 22 = .ok (.lreturn, 1) := by decide +kernel
theorem dX6_cell_23 : decode cX6_cell 23 = .ok (.aload_n 0, 1) := by decide +kernel
theorem dX6_cell_24 : decode cX6_cell 24 = .ok (.getfield 9, 3) := by decide +kernel
theorem dX6_cell_27 : decode cX6_cell 27 = .ok (.iload_n 1, 1) := by decide +kernel
theorem dX6_cell_28 : decode cX6_cell 28 = .ok (.iaload, 1) := by decide +kernel
theorem dX6_cell_29 : decode cX6_cell 29 = .ok (.bipush (-9), 2) := by decide +kernel
theorem dX6_cell_31 : decode cX6_cell 31 = .ok (.if_icmp .eq 19, 3) := by decide +kernel
theorem dX6_cell_34 : decode cX6_cell 34 = .ok (.aload_n 0, 1) := by decide +kernel
theorem dX6_cell_35 : decode cX6_cell 35 = .ok (.getfield 9, 3) := by decide +kernel
theorem dX6_cell_38 : decode cX6_cell 38 = .ok (.iload_n 1, 1) := by decide +kernel
theorem dX6_cell_39 : decode cX6_cell 39 = .ok (.iaload, 1) := by decide +kernel
theorem dX6_cell_40 : decode cX6_cell 40 = .ok (.iload_n 3, 1) := by decide +kernel
theorem dX6_cell_41 : decode cX6_cell 41 = .ok (.if_icmp .eq 9, 3) := by decide +kernel
theorem dX6_cell_44 : decode cX6_cell 44 = .ok (.aload_n 0, 1) := by decide +kernel
theorem dX6_cell_45 : decode cX6_cell 45 = .ok (.iconst 2, 1) := by decide +kernel
theorem dX6_cell_46 : decode cX6_cell 46 = .ok (.invokevirtual 207, 3) := by decide +kernel
theorem dX6_cell_49 : decode cX6_cell 49 = .ok (.lreturn, 1) := by decide +kernel
theorem dX6_cell_50 : decode cX6_cell 50 = .ok (.aload_n 0, 1) := by decide +kernel
theorem dX6_cell_51 : decode cX6_cell 51 = .ok (.getfield 9, 3) := by decide +kernel
theorem dX6_cell_54 : decode cX6_cell 54 = .ok (.iload_n 1, 1) := by decide +kernel
theorem dX6_cell_55 : decode cX6_cell 55 = .ok (.iaload, 1) := by decide +kernel
theorem dX6_cell_56 : decode cX6_cell 56 = .ok (.bipush (-9), 2) := by decide +kernel
theorem dX6_cell_58 : decode cX6_cell 58 = .ok (.if_icmp .ne 9, 3) := by decide +kernel
theorem dX6_cell_61 : decode cX6_cell 61 = .ok (.aload_n 0, 1) := by decide +kernel
theorem dX6_cell_62 : decode cX6_cell 62 = .ok (.iconst 1, 1) := by decide +kernel
theorem dX6_cell_63 : decode cX6_cell 63 = .ok (.invokevirtual 207, 3) := by decide +kernel
theorem dX6_cell_66 : decode cX6_cell 66 = .ok (.lreturn, 1) := by decide +kernel
theorem dX6_cell_67 : decode cX6_cell 67 = .ok (.iload_n 2, 1) := by decide +kernel
theorem dX6_cell_68 : decode cX6_cell 68 = .ok (.iconst 0, 1) := by decide +kernel
theorem dX6_cell_69 : decode cX6_cell 69 = .ok (.aload_n 0, 1) := by decide +kernel
theorem dX6_cell_70 : decode cX6_cell 70 = .ok (.getfield 13, 3) := by decide +kernel
theorem dX6_cell_73 : decode cX6_cell 73 = .ok (.iload_n 1, 1) := by decide +kernel
theorem dX6_cell_74 : decode cX6_cell 74 = .ok (.iaload, 1) := by decide +kernel
theorem dX6_cell_75 : decode cX6_cell 75 = .ok (.iconst 1, 1) := by decide +kernel
theorem dX6_cell_76 : decode cX6_cell 76 = .ok (.isub, 1) := by decide +kernel
theorem dX6_cell_77 : decode cX6_cell 77 = .ok (.invokestatic 52, 3) := by decide +kernel
theorem dX6_cell_80 : decode cX6_cell 80 = .ok (.ifCond .ne 9, 3) := by decide +kernel
theorem dX6_cell_83 : decode cX6_cell 83 = .ok (.aload_n 0, 1) := by decide +kernel
theorem dX6_cell_84 : decode cX6_cell 84 = .ok (.iconst 3, 1) := by decide +kernel
theorem dX6_cell_85 : decode cX6_cell 85 = .ok (.invokevirtual 207, 3) := by decide +kernel
theorem dX6_cell_88 : decode cX6_cell 88 = .ok (.lreturn, 1) := by decide +kernel
theorem dX6_cell_89 : decode cX6_cell 89 = .ok (.aload_n 0, 1) := by decide +kernel
theorem dX6_cell_90 : decode cX6_cell 90 = .ok (.getfield 16, 3) := by decide +kernel
theorem dX6_cell_93 : decode cX6_cell 93 = .ok (.bipush 60, 2) := by decide +kernel
theorem dX6_cell_95 : decode cX6_cell 95 = .ok (.iload_n 1, 1) := by decide +kernel
theorem dX6_cell_96 : decode cX6_cell 96 = .ok (.imul, 1) := by decide +kernel
theorem dX6_cell_97 : decode cX6_cell 97 = .ok (.iload_n 2, 1) := by decide +kernel
theorem dX6_cell_98 : decode cX6_cell 98 = .ok (.iadd, 1) := by decide +kernel
theorem dX6_cell_99 : decode cX6_cell 99 = .ok (.iaload, 1) := by decide +kernel
theorem dX6_cell_100 : decode cX6_cell 100 = .ok (.i2l, 1) := by decide +kernel
theorem dX6_cell_101 : decode cX6_cell 101 = .ok (.lreturn, 1) := by decide +kernel
set_option maxRecDepth 20000 in
theorem ggX6_copy_X6_isSheet : GoodIn wsX6_copy wsX6_isSheet := goodIn_r _ [8, 9, 10, 7, 11] (by decide +kernel) (by decide +kernel)
set_option maxRecDepth 20000 in
theorem gX6_copy_X6_isSheet : GoodIn wsX6_copy (va_wsS RX6 62 yX6_isSheet wsX6_isSheet) := goodIn_app (goodIn_of _ (by decide +kernel)) ggX6_copy_X6_isSheet
set_option maxRecDepth 20000 in
theorem ggX6_copy_X6_fails : GoodIn wsX6_copy wsX6_fails := goodIn_r _ [15, 1, 16, 17, 18, 19, 20, 21, 22, 23, 24, 25, 26, 27, 28, 29, 30, 31, 32, 33, 34, 35, 36, 37, 38, 39, 40, 41] (by decide +kernel) (by decide +kernel)
set_option maxRecDepth 20000 in
theorem gX6_copy_X6_fails : GoodIn wsX6_copy (wsV RX6 73 RX6 yX6_fails wsX6_fails) := goodIn_app (goodIn_of _ (by decide +kernel)) ggX6_copy_X6_fails
theorem dX6_copy_0 : decode cX6_copy 0 = .ok (.aload_n 0, 1) := by decide +kernel
theorem dX6_copy_1 : decode cX6_copy 1 = .ok (.iconst 0, 1) := by decide +kernel
theorem dX6_copy_2 : decode cX6_copy 2 = .ok (.putfield 46, 3) := by decide +kernel
theorem dX6_copy_5 : decode cX6_copy 5 = .ok (.iload_n 1, 1) := by decide +kernel
theorem dX6_copy_6 : decode cX6_copy 6 = .ok (.invokestatic 62, 3) := by decide +kernel
theorem dX6_copy_9 : decode cX6_copy 9 = .ok (.ifCond .eq 10, 3) := by decide +kernel
theorem dX6_copy_12 : decode cX6_copy 12 = .ok (.iload_n 3, 1) := by decide +kernel
theorem dX6_copy_13 : decode cX6_copy 13 = .ok (.invokestatic 62, 3) := by decide +kernel
theorem dX6_copy_16 : decode cX6_copy 16 = .ok (.ifCond .ne 5, 3) := by decide +kernel
theorem dX6_copy_19 : decode cX6_copy 19 = .ok (.iconst (-1), 1) := by decide +kernel
theorem dX6_copy_20 : decode cX6_copy 20 = .ok (.ireturn, 1) := by decide +kernel
theorem dX6_copy_21 : decode cX6_copy 21 = .ok (.aload_n 0, 1) := by decide +kernel
theorem dX6_copy_22 : decode cX6_copy 22 = .ok (.getfield 9, 3) := by decide +kernel
theorem dX6_copy_25 : decode cX6_copy 25 = .ok (.iload_n 1, 1) := by decide +kernel
theorem dX6_copy_26 : decode cX6_copy 26 = .ok (.iaload, 1) := by decide +kernel
theorem dX6_copy_27 : decode cX6_copy 27 = .ok (.bipush (-9), 2) := by decide +kernel
theorem dX6_copy_29 : decode cX6_copy 29 = .ok (.if_icmp .eq 14, 3) := by decide +kernel
theorem dX6_copy_32 : decode cX6_copy 32 = .ok (.aload_n 0, 1) := by decide +kernel
theorem dX6_copy_33 : decode cX6_copy 33 = .ok (.getfield 9, 3) := by decide +kernel
theorem dX6_copy_36 : decode cX6_copy 36 = .ok (.iload_n 3, 1) := by decide +kernel
theorem dX6_copy_37 : decode cX6_copy 37 = .ok (.iaload, 1) := by decide +kernel
theorem dX6_copy_38 : decode cX6_copy 38 = .ok (.bipush (-9), 2) := by decide +kernel
theorem dX6_copy_40 : decode cX6_copy 40 = .ok (.if_icmp .ne 9, 3) := by decide +kernel
theorem dX6_copy_43 : decode cX6_copy 43 = .ok (.aload_n 0, 1) := by decide +kernel
theorem dX6_copy_44 : decode cX6_copy 44 = .ok (.iconst 1, 1) := by decide +kernel
theorem dX6_copy_45 : decode cX6_copy 45 = .ok (.invokevirtual 73, 3) := by decide +kernel
theorem dX6_copy_48 : decode cX6_copy 48 = .ok (.ireturn, 1) := by decide +kernel
theorem dX6_copy_49 : decode cX6_copy 49 = .ok (.aload_n 0, 1) := by decide +kernel
theorem dX6_copy_50 : decode cX6_copy 50 = .ok (.getfield 9, 3) := by decide +kernel
theorem dX6_copy_53 : decode cX6_copy 53 = .ok (.iload_n 1, 1) := by decide +kernel
theorem dX6_copy_54 : decode cX6_copy 54 = .ok (.iaload, 1) := by decide +kernel
theorem dX6_copy_55 : decode cX6_copy 55 = .ok (.aload_n 0, 1) := by decide +kernel
theorem dX6_copy_56 : decode cX6_copy 56 = .ok (.getfield 9, 3) := by decide +kernel
theorem dX6_copy_59 : decode cX6_copy 59 = .ok (.iload_n 3, 1) := by decide +kernel
theorem dX6_copy_60 : decode cX6_copy 60 = .ok (.iaload, 1) := by decide +kernel
theorem dX6_copy_61 : decode cX6_copy 61 = .ok (.if_icmp .eq 9, 3) := by decide +kernel
theorem dX6_copy_64 : decode cX6_copy 64 = .ok (.aload_n 0, 1) := by decide +kernel
theorem dX6_copy_65 : decode cX6_copy 65 = .ok (.iconst 2, 1) := by decide +kernel
theorem dX6_copy_66 : decode cX6_copy 66 = .ok (.invokevirtual 73, 3) := by decide +kernel
theorem dX6_copy_69 : decode cX6_copy 69 = .ok (.ireturn, 1) := by decide +kernel
theorem dX6_copy_70 : decode cX6_copy 70 = .ok (.iload_n 2, 1) := by decide +kernel
theorem dX6_copy_71 : decode cX6_copy 71 = .ok (.ifCond .lt 38, 3) := by decide +kernel
theorem dX6_copy_74 : decode cX6_copy 74 = .ok (.iload 4, 2) := by decide +kernel
theorem dX6_copy_76 : decode cX6_copy 76 = .ok (.ifCond .lt 33, 3) := by decide +kernel
theorem dX6_copy_79 : decode cX6_copy 79 = .ok (.iload 5, 2) := by decide +kernel
theorem dX6_copy_81 : decode cX6_copy 81 = .ok (.ifCond .lt 28, 3) := by decide +kernel
theorem dX6_copy_84 : decode cX6_copy 84 = .ok (.iload_n 2, 1) := by decide +kernel
theorem dX6_copy_85 : decode cX6_copy 85 = .ok (.aload_n 0, 1) := by decide +kernel
theorem dX6_copy_86 : decode cX6_copy 86 = .ok (.getfield 13, 3) := by decide +kernel
theorem dX6_copy_89 : decode cX6_copy 89 = .ok (.iload_n 1, 1) := by decide +kernel
theorem dX6_copy_90 : decode cX6_copy 90 = .ok (.iaload, 1) := by decide +kernel
theorem dX6_copy_91 : decode cX6_copy 91 = .ok (.if_icmp .gt 18, 3) := by decide +kernel
theorem dX6_copy_94 : decode cX6_copy 94 = .ok (.iload 4, 2) := by decide +kernel
theorem dX6_copy_96 : decode cX6_copy 96 = .ok (.aload_n 0, 1) := by decide +kernel
theorem dX6_copy_97 : decode cX6_copy 97 = .ok (.getfield 13, 3) := by decide +kernel
theorem dX6_copy_100 : decode cX6_copy 100 = .ok (.iload_n 3, 1) := by decide +kernel
theorem dX6_copy_101 : decode cX6_copy 101 = .ok (.iaload, 1) := by decide +kernel
theorem dX6_copy_102 : decode cX6_copy 102 = .ok (.if_icmp .gt 7, 3) := by decide +kernel
theorem dX6_copy_105 : decode cX6_copy 105 = .ok (.iconst 1, 1) := by decide +kernel
theorem dX6_copy_106 : decode cX6_copy 106 = .ok (.goto 4, 3) := by decide +kernel
theorem dX6_copy_109 : decode cX6_copy 109 = .ok (.iconst 0, 1) := by decide +kernel
theorem dX6_copy_110 : decode cX6_copy 110 = .ok (.istore 6, 2) := by decide +kernel
theorem dX6_copy_112 : decode cX6_copy 112 = .ok (.iload 6, 2) := by decide +kernel
theorem dX6_copy_114 : decode cX6_copy 114 = .ok (.ifCond .eq 30, 3) := by decide +kernel
theorem dX6_copy_117 : decode cX6_copy 117 = .ok (.iload 5, 2) := by decide +kernel
theorem dX6_copy_119 : decode cX6_copy 119 = .ok (.aload_n 0, 1) := by decide +kernel
theorem dX6_copy_120 : decode cX6_copy 120 = .ok (.getfield 13, 3) := by decide +kernel
theorem dX6_copy_123 : decode cX6_copy 123 = .ok (.iload_n 1, 1) := by decide +kernel
theorem dX6_copy_124 : decode cX6_copy 124 = .ok (.iaload, 1) := by decide +kernel
theorem dX6_copy_125 : decode cX6_copy 125 = .ok (.iload_n 2, 1) := by decide +kernel
theorem dX6_copy_126 : decode cX6_copy 126 = .ok (.isub, 1) := by decide +kernel
theorem dX6_copy_127 : decode cX6_copy 127 = .ok (.if_icmp .gt 17, 3) := by decide +kernel
theorem dX6_copy_130 : decode cX6_copy 130 = .ok (.iload 5, 2) := by decide +kernel
theorem dX6_copy_132 : decode cX6_copy 132 = .ok (.aload_n 0, 1) := by decide +kernel
theorem dX6_copy_133 : decode cX6_copy 133 = .ok (.getfield 13, 3) := by decide +kernel
theorem dX6_copy_136 : decode cX6_copy 136 = .ok (.iload_n 3, 1) := by decide +kernel
theorem dX6_copy_137 : decode cX6_copy 137 = .ok (.iaload, 1) := by decide +kernel
theorem dX6_copy_138 : decode cX6_copy 138 = .ok (.iload 4, 2) := by decide +kernel
theorem dX6_copy_140 : decode cX6_copy 140 = .ok (.isub, 1) := by decide +kernel
theorem dX6_copy_141 : decode cX6_copy 141 = .ok (.if_icmp .le 9, 3) := by decide +kernel
theorem dX6_copy_144 : decode cX6_copy 144 = .ok (.aload_n 0, 1) := by decide +kernel
theorem dX6_copy_145 : decode cX6_copy 145 = .ok (.iconst 3, 1) := by decide +kernel
theorem dX6_copy_146 : decode cX6_copy 146 = .ok (.invokevirtual 73, 3) := by decide +kernel
theorem dX6_copy_149 : decode cX6_copy 149 = .ok (.ireturn, 1) := by decide +kernel
theorem dX6_copy_150 : decode cX6_copy 150 = .ok (.iload_n 2, 1) := by decide +kernel
theorem dX6_copy_151 : decode cX6_copy 151 = .ok (.iload 4, 2) := by decide +kernel
theorem dX6_copy_153 : decode cX6_copy 153 = .ok (.if_icmp .ge 7, 3) := by decide +kernel
theorem dX6_copy_156 : decode cX6_copy 156 = .ok (.iconst 1, 1) := by decide +kernel
theorem dX6_copy_157 : decode cX6_copy 157 = .ok (.goto 4, 3) := by decide +kernel
theorem dX6_copy_160 : decode cX6_copy 160 = .ok (.iconst 0, 1) := by decide +kernel
theorem dX6_copy_161 : decode cX6_copy 161 = .ok (.istore 7, 2) := by decide +kernel
theorem dX6_copy_163 : decode cX6_copy 163 = .ok (.iconst 0, 1) := by decide +kernel
theorem dX6_copy_164 : decode cX6_copy 164 = .ok (.istore 8, 2) := by decide +kernel
theorem dX6_copy_166 : decode cX6_copy 166 = .ok (.iload 8, 2) := by decide +kernel
theorem dX6_copy_168 : decode cX6_copy 168 = .ok (.iload 5, 2) := by decide +kernel
theorem dX6_copy_170 : decode cX6_copy 170 = .ok (.if_icmp .ge 57, 3) := by decide +kernel
theorem dX6_copy_173 : decode cX6_copy 173 = .ok (.iload 7, 2) := by decide +kernel
theorem dX6_copy_175 : decode cX6_copy 175 = .ok (.ifCond .eq 13, 3) := by decide +kernel
theorem dX6_copy_178 : decode cX6_copy 178 = .ok (.iload 5, 2) := by decide +kernel
theorem dX6_copy_180 : decode cX6_copy 180 = .ok (.iconst 1, 1) := by decide +kernel
theorem dX6_copy_181 : decode cX6_copy 181 = .ok (.isub, 1) := by decide +kernel
theorem dX6_copy_182 : decode cX6_copy 182 = .ok (.iload 8, 2) := by decide +kernel
theorem dX6_copy_184 : decode cX6_copy 184 = .ok (.isub, 1) := by decide +kernel
theorem dX6_copy_185 : decode cX6_copy 185 = .ok (.goto 5, 3) := by decide +kernel
theorem dX6_copy_188 : decode cX6_copy 188 = .ok (.iload 8, 2) := by decide +kernel
theorem dX6_copy_190 : decode cX6_copy 190 = .ok (.istore 9, 2) := by decide +kernel
theorem dX6_copy_192 : decode cX6_copy 192 = .ok (.aload_n 0, 1) := by decide +kernel
theorem dX6_copy_193 : decode cX6_copy 193 = .ok (.getfield 16, 3) := by decide +kernel
theorem dX6_copy_196 : decode cX6_copy 196 = .ok (.bipush 60, 2) := by decide +kernel
theorem dX6_copy_198 : decode cX6_copy 198 = .ok (.iload_n 3, 1) := by decide +kernel
theorem dX6_copy_199 : decode cX6_copy 199 = .ok (.imul, 1) := by decide +kernel
theorem dX6_copy_200 : decode cX6_copy 200 = .ok (.iload 4, 2) := by decide +kernel
theorem dX6_copy_202 : decode cX6_copy 202 = .ok (.iadd, 1) := by decide +kernel
theorem dX6_copy_203 : decode cX6_copy 203 = .ok (.iload 9, 2) := by decide +kernel
theorem dX6_copy_205 : decode cX6_copy 205 = .ok (.iadd, 1) := by decide +kernel
theorem dX6_copy_206 : decode cX6_copy 206 = .ok (.aload_n 0, 1) := by decide +kernel
theorem dX6_copy_207 : decode cX6_copy 207 = .ok (.getfield 16, 3) := by decide +kernel
theorem dX6_copy_210 : decode cX6_copy 210 = .ok (.bipush 60, 2) := by decide +kernel
theorem dX6_copy_212 : decode cX6_copy 212 = .ok (.iload_n 1, 1) := by decide +kernel
theorem dX6_copy_213 : decode cX6_copy 213 = .ok (.imul, 1) := by decide +kernel
theorem dX6_copy_214 : decode cX6_copy 214 = .ok (.iload_n 2, 1) := by decide +kernel
theorem dX6_copy_215 : decode cX6_copy 215 = .ok (.iadd, 1) := by decide +kernel
theorem dX6_copy_216 : decode cX6_copy 216 = .ok (.iload 9, 2) := by decide +kernel
theorem dX6_copy_218 : decode cX6_copy 218 = .ok (.iadd, 1) := by decide +kernel
theorem dX6_copy_219 : decode cX6_copy 219 = .ok (.iaload, 1) := by decide +kernel
theorem dX6_copy_220 : decode cX6_copy 220 = .ok (.iastore, 1) := by decide +kernel
theorem dX6_copy_221 : decode cX6_copy 221 = .ok (.iinc 8 1, 3) := by decide +kernel
theorem dX6_copy_224 : decode cX6_copy 224 = .ok (.goto (-58), 3) := by decide +kernel
theorem dX6_copy_227 : decode cX6_copy 227 = .ok (.iload 5, 2) := by decide +kernel
theorem dX6_copy_229 : decode cX6_copy 229 = .ok (.ireturn, 1) := by decide +kernel
theorem dX6_begins_0 : decode cX6_begins 0 = .ok (.aload_n 0, 1) := by decide +kernel
theorem dX6_begins_1 : decode cX6_begins 1 = .ok (.bipush 31, 2) := by decide +kernel
theorem dX6_begins_3 : decode cX6_begins 3 = .ok (.aload_n 0, 1) := by decide +kernel
theorem dX6_begins_4 : decode cX6_begins 4 = .ok (.getfield 211, 3) := by decide +kernel
theorem dX6_begins_7 : decode cX6_begins 7 = .ok (.imul, 1) := by decide +kernel
theorem dX6_begins_8 : decode cX6_begins 8 = .ok (.iload_n 1, 1) := by decide +kernel
theorem dX6_begins_9 : decode cX6_begins 9 = .ok (.iadd, 1) := by decide +kernel
theorem dX6_begins_10 : decode cX6_begins 10 = .ok (.putfield 211, 3) := by decide +kernel
theorem dX6_begins_13 : decode cX6_begins 13 = .ok (.return_, 1) := by decide +kernel
set_option maxRecDepth 20000 in
theorem ggX6_tell_X6_isLayer : GoodIn wsX6_tell wsX6_isLayer := goodIn_r _ [7, 8, 14, 15, 16, 17, 18, 19, 20, 21, 22, 23, 24, 25, 26, 27, 28, 29, 30, 31, 32, 33, 34, 35, 36, 37, 38, 39] (by decide +kernel) (by decide +kernel)
set_option maxRecDepth 20000 in
theorem gX6_tell_X6_isLayer : GoodIn wsX6_tell (wsV RX6 131 RX6 yX6_isLayer wsX6_isLayer) := goodIn_app (goodIn_of _ (by decide +kernel)) ggX6_tell_X6_isLayer
set_option maxRecDepth 20000 in
theorem ggX6_tell_X6_begins : GoodIn wsX6_tell wsX6_begins := goodIn_r _ [12, 13, 14, 15, 16, 17, 18, 19, 20, 21, 22, 23, 24, 25, 26, 27, 28, 29, 30, 31, 32, 33, 34, 35, 36, 37, 38, 39] (by decide +kernel) (by decide +kernel)
set_option maxRecDepth 20000 in
theorem gX6_tell_X6_begins : GoodIn wsX6_tell (wsV RX6 214 RX6 yX6_begins wsX6_begins) := goodIn_app (goodIn_of _ (by decide +kernel)) ggX6_tell_X6_begins
theorem dX6_tell_0 : decode cX6_tell 0 = .ok (.aload_n 0, 1) := by decide +kernel
theorem dX6_tell_1 : decode cX6_tell 1 = .ok (.iload_n 1, 1) := by decide +kernel
theorem dX6_tell_2 : decode cX6_tell 2 = .ok (.invokevirtual 131, 3) := by decide +kernel
theorem dX6_tell_5 : decode cX6_tell 5 = .ok (.ifCond .ne 5, 3) := by decide +kernel
theorem dX6_tell_8 : decode cX6_tell 8 = .ok (.iconst (-1), 1) := by decide +kernel
theorem dX6_tell_9 : decode cX6_tell 9 = .ok (.ireturn, 1) := by decide +kernel
theorem dX6_tell_10 : decode cX6_tell 10 = .ok (.aload_n 0, 1) := by decide +kernel
theorem dX6_tell_11 : decode cX6_tell 11 = .ok (.getfield 22, 3) := by decide +kernel
theorem dX6_tell_14 : decode cX6_tell 14 = .ok (.iload_n 1, 1) := by decide +kernel
theorem dX6_tell_15 : decode cX6_tell 15 = .ok (.iaload, 1) := by decide +kernel
theorem dX6_tell_16 : decode cX6_tell 16 = .ok (.istore_n 2, 1) := by decide +kernel
theorem dX6_tell_17 : decode cX6_tell 17 = .ok (.aload_n 0, 1) := by decide +kernel
theorem dX6_tell_18 : decode cX6_tell 18 = .ok (.getfield 19, 3) := by decide +kernel
theorem dX6_tell_21 : decode cX6_tell 21 = .ok (.iload_n 1, 1) := by decide +kernel
theorem dX6_tell_22 : decode cX6_tell 22 = .ok (.iaload, 1) := by decide +kernel
theorem dX6_tell_23 : decode cX6_tell 23 = .ok (.lookupswitch 67 #[(1, 25), (2, 40)], 25) := by decide +kernel
theorem dX6_tell_48 : decode cX6_tell 48 = .ok (.aload_n 0, 1) := by decide +kernel
theorem dX6_tell_49 : decode cX6_tell 49 = .ok (.iconst 2, 1) := by decide +kernel
theorem dX6_tell_50 : decode cX6_tell 50 = .ok (.invokevirtual 214, 3) := by decide +kernel
theorem dX6_tell_53 : decode cX6_tell 53 = .ok (.aload_n 0, 1) := by decide +kernel
theorem dX6_tell_54 : decode cX6_tell 54 = .ok (.iconst 1, 1) := by decide +kernel
theorem dX6_tell_55 : decode cX6_tell 55 = .ok (.invokevirtual 214, 3) := by decide +kernel
theorem dX6_tell_58 : decode cX6_tell 58 = .ok (.iload_n 2, 1) := by decide +kernel
theorem dX6_tell_59 : decode cX6_tell 59 = .ok (.bipush 100, 2) := by decide +kernel
theorem dX6_tell_61 : decode cX6_tell 61 = .ok (.iadd, 1) := by decide +kernel
theorem dX6_tell_62 : decode cX6_tell 62 = .ok (.ireturn, 1) := by decide +kernel
theorem dX6_tell_63 : decode cX6_tell 63 = .ok (.aload_n 0, 1) := by decide +kernel
theorem dX6_tell_64 : decode cX6_tell 64 = .ok (.iconst 3, 1) := by decide +kernel
theorem dX6_tell_65 : decode cX6_tell 65 = .ok (.invokevirtual 214, 3) := by decide +kernel
theorem dX6_tell_68 : decode cX6_tell 68 = .ok (.aload_n 0, 1) := by decide +kernel
theorem dX6_tell_69 : decode cX6_tell 69 = .ok (.iconst 2, 1) := by decide +kernel
theorem dX6_tell_70 : decode cX6_tell 70 = .ok (.invokevirtual 214, 3) := by decide +kernel
theorem dX6_tell_73 : decode cX6_tell 73 = .ok (.aload_n 0, 1) := by decide +kernel
theorem dX6_tell_74 : decode cX6_tell 74 = .ok (.iconst 1, 1) := by decide +kernel
theorem dX6_tell_75 : decode cX6_tell 75 = .ok (.invokevirtual 214, 3) := by decide +kernel
theorem dX6_tell_78 : decode cX6_tell 78 = .ok (.aload_n 0, 1) := by decide +kernel
theorem dX6_tell_79 : decode cX6_tell 79 = .ok (.iconst 1, 1) := by decide +kernel
theorem dX6_tell_80 : decode cX6_tell 80 = .ok (.invokevirtual 214, 3) := by decide +kernel
theorem dX6_tell_83 : decode cX6_tell 83 = .ok (.iconst 2, 1) := by decide +kernel
theorem dX6_tell_84 : decode cX6_tell 84 = .ok (.iload_n 2, 1) := by decide +kernel
theorem dX6_tell_85 : decode cX6_tell 85 = .ok (.imul, 1) := by decide +kernel
theorem dX6_tell_86 : decode cX6_tell 86 = .ok (.bipush 100, 2) := by decide +kernel
theorem dX6_tell_88 : decode cX6_tell 88 = .ok (.iadd, 1) := by decide +kernel
theorem dX6_tell_89 : decode cX6_tell 89 = .ok (.ireturn, 1) := by decide +kernel
theorem dX6_tell_90 : decode cX6_tell 90 = .ok (.aload_n 0, 1) := by decide +kernel
theorem dX6_tell_91 : decode cX6_tell 91 = .ok (.iconst 1, 1) := by decide +kernel
theorem dX6_tell_92 : decode cX6_tell 92 = .ok (.invokevirtual 214, 3) := by decide +kernel
theorem dX6_tell_95 : decode cX6_tell 95 = .ok (.iload_n 2, 1) := by decide +kernel
theorem dX6_tell_96 : decode cX6_tell 96 = .ok (.ireturn, 1) := by decide +kernel
set_option maxRecDepth 20000 in
theorem ggX6_stroke_X6_isLayer : GoodIn wsX6_stroke wsX6_isLayer := goodIn_r _ [7, 8, 14, 15, 16, 17, 18, 19, 20, 21, 22, 23, 24, 25, 26, 27, 28, 29, 30, 31, 32, 33, 34, 35, 36, 37, 38, 39] (by decide +kernel) (by decide +kernel)
set_option maxRecDepth 20000 in
theorem gX6_stroke_X6_isLayer : GoodIn wsX6_stroke (wsV RX6 131 RX6 yX6_isLayer wsX6_isLayer) := goodIn_app (goodIn_of _ (by decide +kernel)) ggX6_stroke_X6_isLayer
set_option maxRecDepth 20000 in
theorem ggX6_stroke_X6_begins : GoodIn wsX6_stroke wsX6_begins := goodIn_r _ [12, 13, 14, 15, 16, 17, 18, 19, 20, 21, 22, 23, 24, 25, 26, 27, 28, 29, 30, 31, 32, 33, 34, 35, 36, 37, 38, 39] (by decide +kernel) (by decide +kernel)
set_option maxRecDepth 20000 in
theorem gX6_stroke_X6_begins : GoodIn wsX6_stroke (wsV RX6 214 RX6 yX6_begins wsX6_begins) := goodIn_app (goodIn_of _ (by decide +kernel)) ggX6_stroke_X6_begins
theorem dX6_stroke_0 : decode cX6_stroke 0 = .ok (.aload_n 0, 1) := by decide +kernel
theorem dX6_stroke_1 : decode cX6_stroke 1 = .ok (.iload_n 1, 1) := by decide +kernel
theorem dX6_stroke_2 : decode cX6_stroke 2 = .ok (.invokevirtual 131, 3) := by decide +kernel
theorem dX6_stroke_5 : decode cX6_stroke 5 = .ok (.ifCond .ne 5, 3) := by decide +kernel
theorem dX6_stroke_8 : decode cX6_stroke 8 = .ok (.iconst (-1), 1) := by decide +kernel
theorem dX6_stroke_9 : decode cX6_stroke 9 = .ok (.ireturn, 1) := by decide +kernel
theorem dX6_stroke_10 : decode cX6_stroke 10 = .ok (.aload_n 0, 1) := by decide +kernel
theorem dX6_stroke_11 : decode cX6_stroke 11 = .ok (.aload_n 0, 1) := by decide +kernel
theorem dX6_stroke_12 : decode cX6_stroke 12 = .ok (.getfield 19, 3) := by decide +kernel
theorem dX6_stroke_15 : decode cX6_stroke 15 = .ok (.iload_n 1, 1) := by decide +kernel
theorem dX6_stroke_16 : decode cX6_stroke 16 = .ok (.iaload, 1) := by decide +kernel
theorem dX6_stroke_17 : decode cX6_stroke 17 = .ok (.iconst 2, 1) := by decide +kernel
theorem dX6_stroke_18 : decode cX6_stroke 18 = .ok (.if_icmp .ne 7, 3) := by decide +kernel
theorem dX6_stroke_21 : decode cX6_stroke 21 = .ok (.iconst 5, 1) := by decide +kernel
theorem dX6_stroke_22 : decode cX6_stroke 22 = .ok (.goto 4, 3) := by decide +kernel
theorem dX6_stroke_25 : decode cX6_stroke 25 = .ok (.iconst 4, 1) := by decide +kernel
theorem dX6_stroke_26 : decode cX6_stroke 26 = .ok (.invokevirtual 214, 3) := by decide +kernel
theorem dX6_stroke_29 : decode cX6_stroke 29 = .ok (.aload_n 0, 1) := by decide +kernel
theorem dX6_stroke_30 : decode cX6_stroke 30 = .ok (.getfield 19, 3) := by decide +kernel
theorem dX6_stroke_33 : decode cX6_stroke 33 = .ok (.iload_n 1, 1) := by decide +kernel
theorem dX6_stroke_34 : decode cX6_stroke 34 = .ok (.iaload, 1) := by decide +kernel
theorem dX6_stroke_35 : decode cX6_stroke 35 = .ok (.iconst 2, 1) := by decide +kernel
theorem dX6_stroke_36 : decode cX6_stroke 36 = .ok (.if_icmp .ne 8, 3) := by decide +kernel
theorem dX6_stroke_39 : decode cX6_stroke 39 = .ok (.bipush 10, 2) := by decide +kernel
theorem dX6_stroke_41 : decode cX6_stroke 41 = .ok (.goto 9, 3) := by decide +kernel
theorem dX6_stroke_44 : decode cX6_stroke 44 = .ok (.aload_n 0, 1) := by decide +kernel
theorem dX6_stroke_45 : decode cX6_stroke 45 = .ok (.getfield 25, 3) := by decide +kernel
theorem dX6_stroke_48 : decode cX6_stroke 48 = .ok (.iload_n 1, 1) := by decide +kernel
theorem dX6_stroke_49 : decode cX6_stroke 49 = .ok (.iaload, 1) := by decide +kernel
theorem dX6_stroke_50 : decode cX6_stroke 50 = .ok (.ireturn, 1) := by decide +kernel
set_option maxRecDepth 20000 in
theorem ggX6_as_X6_isLayer : GoodIn wsX6_as wsX6_isLayer := goodIn_r _ [7, 8, 16, 17, 18, 19, 20, 21, 22, 23, 24, 25, 26, 27, 28, 29, 30, 31, 32, 33, 34, 35, 36, 37, 38, 39, 40, 41] (by decide +kernel) (by decide +kernel)
set_option maxRecDepth 20000 in
theorem gX6_as_X6_isLayer : GoodIn wsX6_as (wsV RX6 131 RX6 yX6_isLayer wsX6_isLayer) := goodIn_app (goodIn_of _ (by decide +kernel)) ggX6_as_X6_isLayer
set_option maxRecDepth 20000 in
theorem ggX6_as_X6_within : GoodIn wsX6_as wsX6_within := goodIn_r _ [11] (by decide +kernel) (by decide +kernel)
set_option maxRecDepth 20000 in
theorem gX6_as_X6_within : GoodIn wsX6_as (va_wsS RX6 52 yX6_within wsX6_within) := goodIn_app (goodIn_of _ (by decide +kernel)) ggX6_as_X6_within
set_option maxRecDepth 20000 in
theorem ggX6_as_X6_fails : GoodIn wsX6_as wsX6_fails := goodIn_r _ [15, 1, 16, 17, 18, 19, 20, 21, 22, 23, 24, 25, 26, 27, 28, 29, 30, 31, 32, 33, 34, 35, 36, 37, 38, 39, 40, 41] (by decide +kernel) (by decide +kernel)
set_option maxRecDepth 20000 in
theorem gX6_as_X6_fails : GoodIn wsX6_as (wsV RX6 73 RX6 yX6_fails wsX6_fails) := goodIn_app (goodIn_of _ (by decide +kernel)) ggX6_as_X6_fails
theorem dX6_as_0 : decode cX6_as 0 = .ok (.aload_n 0, 1) := by decide +kernel
theorem dX6_as_1 : decode cX6_as 1 = .ok (.iconst 0, 1) := by decide +kernel
theorem dX6_as_2 : decode cX6_as 2 = .ok (.putfield 46, 3) := by decide +kernel
theorem dX6_as_5 : decode cX6_as 5 = .ok (.aload_n 0, 1) := by decide +kernel
theorem dX6_as_6 : decode cX6_as 6 = .ok (.iload_n 1, 1) := by decide +kernel
theorem dX6_as_7 : decode cX6_as 7 = .ok (.invokevirtual 131, 3) := by decide +kernel
theorem dX6_as_10 : decode cX6_as 10 = .ok (.ifCond .ne 5, 3) := by decide +kernel
theorem dX6_as_13 : decode cX6_as 13 = .ok (.iconst (-1), 1) := by decide +kernel
theorem dX6_as_14 : decode cX6_as 14 = .ok (.ireturn, 1) := by decide +kernel
theorem dX6_as_15 : decode cX6_as 15 = .ok (.iload_n 2, 1) := by decide +kernel
theorem dX6_as_16 : decode cX6_as 16 = .ok (.iconst 0, 1) := by decide +kernel
theorem dX6_as_17 : decode cX6_as 17 = .ok (.iconst 2, 1) := by decide +kernel
theorem dX6_as_18 : decode cX6_as 18 = .ok (.invokestatic 52, 3) := by decide +kernel
theorem dX6_as_21 : decode cX6_as 21 = .ok (.ifCond .ne 6, 3) := by decide +kernel
theorem dX6_as_24 : decode cX6_as 24 = .ok (.bipush (-2), 2) := by decide +kernel
theorem dX6_as_26 : decode cX6_as 26 = .ok (.ireturn, 1) := by decide +kernel
theorem dX6_as_27 : decode cX6_as 27 = .ok (.aload_n 0, 1) := by decide +kernel
theorem dX6_as_28 : decode cX6_as 28 = .ok (.getfield 19, 3) := by decide +kernel
theorem dX6_as_31 : decode cX6_as 31 = .ok (.iload_n 1, 1) := by decide +kernel
theorem dX6_as_32 : decode cX6_as 32 = .ok (.iaload, 1) := by decide +kernel
theorem dX6_as_33 : decode cX6_as 33 = .ok (.iload_n 2, 1) := by decide +kernel
theorem dX6_as_34 : decode cX6_as 34 = .ok (.if_icmp .lt 7, 3) := by decide +kernel
theorem dX6_as_37 : decode cX6_as 37 = .ok (.iconst 1, 1) := by decide +kernel
theorem dX6_as_38 : decode cX6_as 38 = .ok (.goto 8, 3) := by decide +kernel
theorem dX6_as_41 : decode cX6_as 41 = .ok (.aload_n 0, 1) := by decide +kernel
theorem dX6_as_42 : decode cX6_as 42 = .ok (.iconst 2, 1) := by decide +kernel
theorem dX6_as_43 : decode cX6_as 43 = .ok (.invokevirtual 73, 3) := by decide +kernel
theorem dX6_as_46 : decode cX6_as 46 = .ok (.ireturn, 1) := by decide +kernel
theorem dX6_trace_0 : decode cX6_trace 0 = .ok (.aload_n 0, 1) := by decide +kernel
theorem dX6_trace_1 : decode cX6_trace 1 = .ok (.getfield 211, 3) := by decide +kernel
theorem dX6_trace_4 : decode cX6_trace 4 = .ok (.ireturn, 1) := by decide +kernel
theorem dX6_fault_0 : decode cX6_fault 0 = .ok (.aload_n 0, 1) := by decide +kernel
theorem dX6_fault_1 : decode cX6_fault 1 = .ok (.getfield 46, 3) := by decide +kernel
theorem dX6_fault_4 : decode cX6_fault 4 = .ok (.ireturn, 1) := by decide +kernel
set_option maxRecDepth 20000 in
theorem ggX6_many_X6_heardNow : GoodIn wsX6_many wsX6_heardNow := goodIn_r _ [9, 2, 3, 10, 11, 12, 8, 13, 1, 14, 15, 16, 17, 18, 19, 20, 21, 22, 23, 24, 25, 26, 27, 28, 29, 30, 31, 35, 36, 37, 38, 39, 40, 41, 42, 43, 44, 45, 46, 47, 48, 49, 50, 51, 52, 53, 54, 55, 56, 57, 58, 59, 60] (by decide +kernel) (by decide +kernel)
set_option maxRecDepth 20000 in
theorem gX6_many_X6_heardNow : GoodIn wsX6_many (wsV RX6 138 RX6 yX6_heardNow wsX6_heardNow) := goodIn_app (goodIn_of _ (by decide +kernel)) ggX6_many_X6_heardNow
set_option maxRecDepth 20000 in
theorem ggX6_many_X6_size : GoodIn wsX6_many wsX6_size := goodIn_r _ [34] (by decide +kernel) (by decide +kernel)
set_option maxRecDepth 20000 in
theorem gX6_many_X6_size : GoodIn wsX6_many (va_wsS RX6 147 yX6_size wsX6_size) := goodIn_app (goodIn_of _ (by decide +kernel)) ggX6_many_X6_size
theorem dX6_many_0 : decode cX6_many 0 = .ok (.iload_n 1, 1) := by decide +kernel
theorem dX6_many_1 : decode cX6_many 1 = .ok (.tableswitch 74 0 4 #[35, 40, 45, 50, 69], 35) := by decide +kernel
theorem dX6_many_36 : decode cX6_many 36 = .ok (.aload_n 0, 1) := by decide +kernel
theorem dX6_many_37 : decode cX6_many 37 = .ok (.getfield 56, 3) := by decide +kernel
theorem dX6_many_40 : decode cX6_many 40 = .ok (.ireturn, 1) := by decide +kernel
theorem dX6_many_41 : decode cX6_many 41 = .ok (.aload_n 0, 1) := by decide +kernel
theorem dX6_many_42 : decode cX6_many 42 = .ok (.getfield 86, 3) := by decide +kernel
theorem dX6_many_45 : decode cX6_many 45 = .ok (.ireturn, 1) := by decide +kernel
theorem dX6_many_46 : decode cX6_many 46 = .ok (.aload_n 0, 1) := by decide +kernel
theorem dX6_many_47 : decode cX6_many 47 = .ok (.getfield 92, 3) := by decide +kernel
theorem dX6_many_50 : decode cX6_many 50 = .ok (.ireturn, 1) := by decide +kernel
theorem dX6_many_51 : decode cX6_many 51 = .ok (.aload_n 0, 1) := by decide +kernel
theorem dX6_many_52 : decode cX6_many 52 = .ok (.getfield 56, 3) := by decide +kernel
theorem dX6_many_55 : decode cX6_many 55 = .ok (.ifCond .ne 7, 3) := by decide +kernel
theorem dX6_many_58 : decode cX6_many 58 = .ok (.iconst 0, 1) := by decide +kernel
theorem dX6_many_59 : decode cX6_many 59 = .ok (.goto 10, 3) := by decide +kernel
theorem dX6_many_62 : decode cX6_many 62 = .ok (.aload_n 0, 1) := by decide +kernel
theorem dX6_many_63 : decode cX6_many 63 = .ok (.invokevirtual 138, 3) := by decide +kernel
theorem dX6_many_66 : decode cX6_many 66 = .ok (.invokestatic 147, 3) := by decide +kernel
theorem dX6_many_69 : decode cX6_many 69 = .ok (.ireturn, 1) := by decide +kernel
theorem dX6_many_70 : decode cX6_many 70 = .ok (.aload_n 0, 1) := by decide +kernel
theorem dX6_many_71 : decode cX6_many 71 = .ok (.getfield 98, 3) := by decide +kernel
theorem dX6_many_74 : decode cX6_many 74 = .ok (.ireturn, 1) := by decide +kernel
theorem dX6_many_75 : decode cX6_many 75 = .ok (.bipush (-2), 2) := by decide +kernel
theorem dX6_many_77 : decode cX6_many 77 = .ok (.ireturn, 1) := by decide +kernel
theorem dJ6_bitCount_0f7a4_0 : decode cJ6_bitCount_0f7a4 0 = .ok (.iload_n 0, 1) := by decide +kernel
theorem dJ6_bitCount_0f7a4_1 : decode cJ6_bitCount_0f7a4 1 = .ok (.iload_n 0, 1) := by decide +kernel
theorem dJ6_bitCount_0f7a4_2 : decode cJ6_bitCount_0f7a4 2 = .ok (.iconst 1, 1) := by decide +kernel
theorem dJ6_bitCount_0f7a4_3 : decode cJ6_bitCount_0f7a4 3 = .ok (.iushr, 1) := by decide +kernel
theorem dJ6_bitCount_0f7a4_4 : decode cJ6_bitCount_0f7a4 4 = .ok (.ldc_w 265, 3) := by decide +kernel
theorem dJ6_bitCount_0f7a4_7 : decode cJ6_bitCount_0f7a4 7 = .ok (.iand, 1) := by decide +kernel
theorem dJ6_bitCount_0f7a4_8 : decode cJ6_bitCount_0f7a4 8 = .ok (.isub, 1) := by decide +kernel
theorem dJ6_bitCount_0f7a4_9 : decode cJ6_bitCount_0f7a4 9 = .ok (.istore_n 0, 1) := by decide +kernel
theorem dJ6_bitCount_0f7a4_10 : decode cJ6_bitCount_0f7a4 10 = .ok (.iload_n 0, 1) := by decide +kernel
theorem dJ6_bitCount_0f7a4_11 : decode cJ6_bitCount_0f7a4 11 = .ok (.ldc_w 266, 3) := by decide +kernel
theorem dJ6_bitCount_0f7a4_14 : decode cJ6_bitCount_0f7a4 14 = .ok (.iand, 1) := by decide +kernel
theorem dJ6_bitCount_0f7a4_15 : decode cJ6_bitCount_0f7a4 15 = .ok (.iload_n 0, 1) := by decide +kernel
theorem dJ6_bitCount_0f7a4_16 : decode cJ6_bitCount_0f7a4 16 = .ok (.iconst 2, 1) := by decide +kernel
theorem dJ6_bitCount_0f7a4_17 : decode cJ6_bitCount_0f7a4 17 = .ok (.iushr, 1) := by decide +kernel
theorem dJ6_bitCount_0f7a4_18 : decode cJ6_bitCount_0f7a4 18 = .ok (.ldc_w 266, 3) := by decide +kernel
theorem dJ6_bitCount_0f7a4_21 : decode cJ6_bitCount_0f7a4 21 = .ok (.iand, 1) := by decide +kernel
theorem dJ6_bitCount_0f7a4_22 : decode cJ6_bitCount_0f7a4 22 = .ok (.iadd, 1) := by decide +kernel
theorem dJ6_bitCount_0f7a4_23 : decode cJ6_bitCount_0f7a4 23 = .ok (.istore_n 0, 1) := by decide +kernel
theorem dJ6_bitCount_0f7a4_24 : decode cJ6_bitCount_0f7a4 24 = .ok (.iload_n 0, 1) := by decide +kernel
theorem dJ6_bitCount_0f7a4_25 : decode cJ6_bitCount_0f7a4 25 = .ok (.iload_n 0, 1) := by decide +kernel
theorem dJ6_bitCount_0f7a4_26 : decode cJ6_bitCount_0f7a4 26 = .ok (.iconst 4, 1) := by decide +kernel
theorem dJ6_bitCount_0f7a4_27 : decode cJ6_bitCount_0f7a4 27 = .ok (.iushr, 1) := by decide +kernel
theorem dJ6_bitCount_0f7a4_28 : decode cJ6_bitCount_0f7a4 28 = .ok (.iadd, 1) := by decide +kernel
theorem dJ6_bitCount_0f7a4_29 : decode cJ6_bitCount_0f7a4 29 = .ok (.ldc_w 267, 3) := by decide +kernel
theorem dJ6_bitCount_0f7a4_32 : decode cJ6_bitCount_0f7a4 32 = .ok (.iand, 1) := by decide +kernel
theorem dJ6_bitCount_0f7a4_33 : decode cJ6_bitCount_0f7a4 33 = .ok (.istore_n 0, 1) := by decide +kernel
theorem dJ6_bitCount_0f7a4_34 : decode cJ6_bitCount_0f7a4 34 = .ok (.iload_n 0, 1) := by decide +kernel
theorem dJ6_bitCount_0f7a4_35 : decode cJ6_bitCount_0f7a4 35 = .ok (.iload_n 0, 1) := by decide +kernel
theorem dJ6_bitCount_0f7a4_36 : decode cJ6_bitCount_0f7a4 36 = .ok (.bipush 8, 2) := by decide +kernel
theorem dJ6_bitCount_0f7a4_38 : decode cJ6_bitCount_0f7a4 38 = .ok (.iushr, 1) := by decide +kernel
theorem dJ6_bitCount_0f7a4_39 : decode cJ6_bitCount_0f7a4 39 = .ok (.iadd, 1) := by decide +kernel
theorem dJ6_bitCount_0f7a4_40 : decode cJ6_bitCount_0f7a4 40 = .ok (.istore_n 0, 1) := by decide +kernel
theorem dJ6_bitCount_0f7a4_41 : decode cJ6_bitCount_0f7a4 41 = .ok (.iload_n 0, 1) := by decide +kernel
theorem dJ6_bitCount_0f7a4_42 : decode cJ6_bitCount_0f7a4 42 = .ok (.iload_n 0, 1) := by decide +kernel
theorem dJ6_bitCount_0f7a4_43 : decode cJ6_bitCount_0f7a4 43 = .ok (.bipush 16, 2) := by decide +kernel
theorem dJ6_bitCount_0f7a4_45 : decode cJ6_bitCount_0f7a4 45 = .ok (.iushr, 1) := by decide +kernel
theorem dJ6_bitCount_0f7a4_46 : decode cJ6_bitCount_0f7a4 46 = .ok (.iadd, 1) := by decide +kernel
theorem dJ6_bitCount_0f7a4_47 : decode cJ6_bitCount_0f7a4 47 = .ok (.istore_n 0, 1) := by decide +kernel
theorem dJ6_bitCount_0f7a4_48 : decode cJ6_bitCount_0f7a4 48 = .ok (.iload_n 0, 1) := by decide +kernel
theorem dJ6_bitCount_0f7a4_49 : decode cJ6_bitCount_0f7a4 49 = .ok (.bipush 63, 2) := by decide +kernel
theorem dJ6_bitCount_0f7a4_51 : decode cJ6_bitCount_0f7a4 51 = .ok (.iand, 1) := by decide +kernel
theorem dJ6_bitCount_0f7a4_52 : decode cJ6_bitCount_0f7a4 52 = .ok (.ireturn, 1) := by decide +kernel
theorem dJ9_max_7cf53_0 : decode cJ9_max_7cf53 0 = .ok (.iload_n 0, 1) := by decide +kernel
theorem dJ9_max_7cf53_1 : decode cJ9_max_7cf53 1 = .ok (.iload_n 1, 1) := by decide +kernel
theorem dJ9_max_7cf53_2 : decode cJ9_max_7cf53 2 = .ok (.if_icmp .lt 7, 3) := by decide +kernel
theorem dJ9_max_7cf53_5 : decode cJ9_max_7cf53 5 = .ok (.iload_n 0, 1) := by decide +kernel
theorem dJ9_max_7cf53_6 : decode cJ9_max_7cf53 6 = .ok (.goto 4, 3) := by decide +kernel
theorem dJ9_max_7cf53_9 : decode cJ9_max_7cf53 9 = .ok (.iload_n 1, 1) := by decide +kernel
theorem dJ9_max_7cf53_10 : decode cJ9_max_7cf53 10 = .ok (.ireturn, 1) := by decide +kernel
theorem dJ9_min_7cf53_0 : decode cJ9_min_7cf53 0 = .ok (.iload_n 0, 1) := by decide +kernel
theorem dJ9_min_7cf53_1 : decode cJ9_min_7cf53 1 = .ok (.iload_n 1, 1) := by decide +kernel
theorem dJ9_min_7cf53_2 : decode cJ9_min_7cf53 2 = .ok (.if_icmp .gt 7, 3) := by decide +kernel
theorem dJ9_min_7cf53_5 : decode cJ9_min_7cf53 5 = .ok (.iload_n 0, 1) := by decide +kernel
theorem dJ9_min_7cf53_6 : decode cJ9_min_7cf53 6 = .ok (.goto 4, 3) := by decide +kernel
theorem dJ9_min_7cf53_9 : decode cJ9_min_7cf53 9 = .ok (.iload_n 1, 1) := by decide +kernel
theorem dJ9_min_7cf53_10 : decode cJ9_min_7cf53 10 = .ok (.ireturn, 1) := by decide +kernel
set_option maxRecDepth 20000 in
theorem ggL_law_X5_init : GoodIn wsL_law wsX5_init := goodIn_r _ [8, 9, 10, 11, 12, 13, 14, 15, 16, 17, 18, 19, 20, 21, 22, 23, 24, 25, 26, 27, 28, 29, 30, 31, 32, 33, 34, 35, 36, 37, 38, 39, 40, 41, 42, 43, 44, 45, 46, 47, 48, 49, 50, 51, 52, 53, 819, 820, 821, 822, 786, 787, 788, 789, 790, 791, 792, 823, 824, 825, 826, 827, 828, 829, 830, 831, 832, 833, 834] (by decide +kernel) (by decide +kernel)
set_option maxRecDepth 20000 in
theorem gL_law_X5_init : GoodIn wsL_law (wsX5_init) := ggL_law_X5_init
set_option maxRecDepth 20000 in
theorem ggL_law_X6_init : GoodIn wsL_law wsX6_init := goodIn_r _ [56, 57, 10, 11, 43, 58, 59, 60, 61, 62, 63, 64, 65, 66, 67, 68, 69, 793, 794, 795, 796, 797, 798, 799, 800, 801, 802, 803, 804, 805, 806, 807, 808, 809, 810, 811, 812, 813, 814, 815, 816, 817, 818] (by decide +kernel) (by decide +kernel)
set_option maxRecDepth 20000 in
theorem gL_law_X6_init : GoodIn wsL_law (wsX6_init) := ggL_law_X6_init
set_option maxRecDepth 20000 in
theorem ggL_law_X5_wall : GoodIn wsL_law wsX5_wall := goodIn_r _ [73, 74, 15, 20, 75, 76, 77, 78, 79, 2, 80, 26, 81, 82, 83, 84, 85, 86, 28, 87, 88, 89, 90, 91, 92, 93, 94, 95, 96, 97, 98, 99, 100, 101, 102, 103, 104, 105, 53, 106, 107, 108, 109, 110, 111, 112, 113, 114, 115, 116, 117, 14, 118, 119, 120, 121, 122, 123, 124, 125, 126, 127, 128, 129, 130, 131, 132, 133, 34, 134, 135, 136, 36, 137, 138, 139, 140, 786, 787, 788, 789, 790, 791, 792, 823, 824, 825, 819, 820, 821, 822, 828, 829, 830, 831, 832, 833, 834] (by decide +kernel) (by decide +kernel)
set_option maxRecDepth 20000 in
theorem gL_law_X5_wall : GoodIn wsL_law (wsV RL 13 RX5 yX5_wall wsX5_wall) := goodIn_app (goodIn_of _ (by decide +kernel)) ggL_law_X5_wall
set_option maxRecDepth 20000 in
theorem ggL_law_X6_wall : GoodIn wsL_law wsX6_wall := goodIn_r _ [144, 145, 146, 147, 148, 149, 5, 150, 151, 152, 153, 154, 155, 156, 157, 158, 159, 160, 58, 59, 161, 162, 163, 164, 165, 166, 167, 168, 169, 170, 171, 172, 173, 174, 175, 60, 176, 177, 178, 179, 180, 181, 182, 183, 64, 184, 185, 186, 187, 188, 189, 61, 62, 63, 190, 793, 794, 795, 796, 797, 798, 799, 800, 801, 802, 803, 804, 805, 806, 807, 808, 809, 810, 811, 812, 813, 814, 815, 816, 817, 818] (by decide +kernel) (by decide +kernel)
set_option maxRecDepth 20000 in
theorem gL_law_X6_wall : GoodIn wsL_law (wsV RL 17 RX6 yX6_wall wsX6_wall) := goodIn_app (goodIn_of _ (by decide +kernel)) ggL_law_X6_wall
set_option maxRecDepth 20000 in
theorem ggL_law_X5_ofLayer : GoodIn wsL_law wsX5_ofLayer := goodIn_r _ [194, 15, 195, 196, 197, 198, 199, 200, 14, 201, 127, 34, 202, 203, 204, 36, 205, 138, 139, 206, 207, 208, 209, 128, 129, 210, 211, 212, 213, 214, 215, 216, 217, 218, 219, 786, 787, 788, 789, 790, 791, 792, 832, 833, 834, 819, 820, 821, 822] (by decide +kernel) (by decide +kernel)
set_option maxRecDepth 20000 in
theorem gL_law_X5_ofLayer : GoodIn wsL_law (wsV RL 18 RX5 yX5_ofLayer wsX5_ofLayer) := goodIn_app (goodIn_of _ (by decide +kernel)) ggL_law_X5_ofLayer
set_option maxRecDepth 20000 in
theorem ggL_law_X6_ofLayer : GoodIn wsL_law wsX6_ofLayer := goodIn_r _ [223, 61, 62, 63, 224, 225, 226, 5, 227, 147, 228, 229, 230, 231, 232, 233, 234, 235, 188, 189, 236, 237, 238, 239, 65, 240, 241, 242, 243, 244, 245, 246, 247, 248, 249, 250, 251, 252, 253, 254, 793, 794, 795, 796, 797, 798, 799, 800, 801, 802, 803, 804, 805, 806, 807, 808, 809, 810, 811, 812, 813, 814, 815, 816, 817, 818] (by decide +kernel) (by decide +kernel)
set_option maxRecDepth 20000 in
theorem gL_law_X6_ofLayer : GoodIn wsL_law (wsV RL 22 RX6 yX6_ofLayer wsX6_ofLayer) := goodIn_app (goodIn_of _ (by decide +kernel)) ggL_law_X6_ofLayer
set_option maxRecDepth 20000 in
theorem ggL_law_X5_heat : GoodIn wsL_law wsX5_heat := goodIn_r _ [258, 15, 259, 81, 82, 2, 83, 260, 261, 262, 14, 263, 127, 786, 787, 788, 789, 790, 791, 792, 819, 820, 821, 822] (by decide +kernel) (by decide +kernel)
set_option maxRecDepth 20000 in
theorem gL_law_X5_heat : GoodIn wsL_law (wsV RL 23 RX5 yX5_heat wsX5_heat) := goodIn_app (goodIn_of _ (by decide +kernel)) ggL_law_X5_heat
set_option maxRecDepth 20000 in
theorem ggL_law_X6_heat : GoodIn wsL_law wsX6_heat := goodIn_r _ [267, 147, 188, 151, 152, 5, 153, 793, 794, 795, 796, 797, 798, 799, 800, 801, 802, 803, 804, 805, 806, 807, 808, 809, 810, 811, 812, 813, 814, 815, 816, 817, 818] (by decide +kernel) (by decide +kernel)
set_option maxRecDepth 20000 in
theorem gL_law_X6_heat : GoodIn wsL_law (wsV RL 27 RX6 yX6_heat wsX6_heat) := goodIn_app (goodIn_of _ (by decide +kernel)) ggL_law_X6_heat
set_option maxRecDepth 20000 in
theorem ggL_law_X5_wet : GoodIn wsL_law wsX5_wet := goodIn_r _ [271, 15, 272, 81, 82, 2, 83, 260, 261, 262, 14, 263, 127, 786, 787, 788, 789, 790, 791, 792, 819, 820, 821, 822] (by decide +kernel) (by decide +kernel)
set_option maxRecDepth 20000 in
theorem gL_law_X5_wet : GoodIn wsL_law (wsV RL 28 RX5 yX5_wet wsX5_wet) := goodIn_app (goodIn_of _ (by decide +kernel)) ggL_law_X5_wet
set_option maxRecDepth 20000 in
theorem ggL_law_X6_wet : GoodIn wsL_law wsX6_wet := goodIn_r _ [276, 147, 189, 277, 278, 5, 279, 151, 152, 153, 793, 794, 795, 796, 797, 798, 799, 800, 801, 802, 803, 804, 805, 806, 807, 808, 809, 810, 811, 812, 813, 814, 815, 816, 817, 818] (by decide +kernel) (by decide +kernel)
set_option maxRecDepth 20000 in
theorem gL_law_X6_wet : GoodIn wsL_law (wsV RL 31 RX6 yX6_wet wsX6_wet) := goodIn_app (goodIn_of _ (by decide +kernel)) ggL_law_X6_wet
set_option maxRecDepth 20000 in
theorem ggL_law_X5_paste : GoodIn wsL_law wsX5_paste := goodIn_r _ [283, 15, 196, 198, 199, 200, 14, 201, 127, 34, 81, 82, 2, 83, 786, 787, 788, 789, 790, 791, 792, 832, 833, 834, 819, 820, 821, 822] (by decide +kernel) (by decide +kernel)
set_option maxRecDepth 20000 in
theorem gL_law_X5_paste : GoodIn wsL_law (wsV RL 32 RX5 yX5_paste wsX5_paste) := goodIn_app (goodIn_of _ (by decide +kernel)) ggL_law_X5_paste
set_option maxRecDepth 20000 in
theorem ggL_law_X6_paste : GoodIn wsL_law wsX6_paste := goodIn_r _ [287, 62, 224, 225, 226, 5, 227, 147, 277, 278, 279, 151, 152, 153, 793, 794, 795, 796, 797, 798, 799, 800, 801, 802, 803, 804, 805, 806, 807, 808, 809, 810, 811, 812, 813, 814, 815, 816, 817, 818] (by decide +kernel) (by decide +kernel)
set_option maxRecDepth 20000 in
theorem gL_law_X6_paste : GoodIn wsL_law (wsV RL 35 RX6 yX6_paste wsX6_paste) := goodIn_app (goodIn_of _ (by decide +kernel)) ggL_law_X6_paste
set_option maxRecDepth 20000 in
theorem ggL_law_X5_heard : GoodIn wsL_law wsX5_heard := goodIn_r _ [291, 15, 260, 261, 262, 14, 263, 127, 206, 207, 208, 209, 128, 129, 215, 216, 217, 218, 34, 219, 214, 203, 204, 36, 205, 138, 139, 292, 293, 2, 294, 786, 787, 788, 789, 790, 791, 792, 819, 820, 821, 822, 832, 833, 834] (by decide +kernel) (by decide +kernel)
set_option maxRecDepth 20000 in
theorem gL_law_X5_heard : GoodIn wsL_law (wsV RL 36 RX5 yX5_heard wsX5_heard) := goodIn_app (goodIn_of _ (by decide +kernel)) ggL_law_X5_heard
set_option maxRecDepth 20000 in
theorem ggL_law_X6_heard : GoodIn wsL_law wsX6_heard := goodIn_r _ [298, 147, 247, 248, 249, 5, 250, 188, 189, 236, 237, 238, 239, 65, 251, 252, 253, 254, 61, 240, 241, 242, 243, 244, 245, 246, 228, 229, 230, 231, 62, 793, 794, 795, 796, 797, 798, 799, 800, 801, 802, 803, 804, 805, 806, 807, 808, 809, 810, 811, 812, 813, 814, 815, 816, 817, 818] (by decide +kernel) (by decide +kernel)
set_option maxRecDepth 20000 in
theorem gL_law_X6_heard : GoodIn wsL_law (wsV RL 40 RX6 yX6_heard wsX6_heard) := goodIn_app (goodIn_of _ (by decide +kernel)) ggL_law_X6_heard
set_option maxRecDepth 20000 in
theorem ggL_law_X5_counsel : GoodIn wsL_law wsX5_counsel := goodIn_r _ [302, 15, 81, 82, 2, 83, 260, 261, 262, 14, 263, 127, 303, 304, 305, 306, 34, 307, 308, 216, 217, 218, 219, 214, 203, 204, 36, 205, 138, 139, 309, 310, 311, 312, 313, 314, 315, 786, 787, 788, 789, 790, 791, 792, 819, 820, 821, 822, 832, 833, 834] (by decide +kernel) (by decide +kernel)
set_option maxRecDepth 20000 in
theorem gL_law_X5_counsel : GoodIn wsL_law (wsV RL 41 RX5 yX5_counsel wsX5_counsel) := goodIn_app (goodIn_of _ (by decide +kernel)) ggL_law_X5_counsel
set_option maxRecDepth 20000 in
theorem ggL_law_X6_counsel : GoodIn wsL_law wsX6_counsel := goodIn_r _ [319, 147, 151, 152, 5, 153, 277, 278, 279, 236, 237, 238, 239, 65, 320, 321, 322, 323, 63, 251, 252, 253, 254, 61, 240, 241, 242, 243, 244, 245, 246, 228, 229, 230, 231, 62, 324, 325, 326, 327, 793, 794, 795, 796, 797, 798, 799, 800, 801, 802, 803, 804, 805, 806, 807, 808, 809, 810, 811, 812, 813, 814, 815, 816, 817, 818] (by decide +kernel) (by decide +kernel)
set_option maxRecDepth 20000 in
theorem gL_law_X6_counsel : GoodIn wsL_law (wsV RL 44 RX6 yX6_counsel wsX6_counsel) := goodIn_app (goodIn_of _ (by decide +kernel)) ggL_law_X6_counsel
set_option maxRecDepth 20000 in
theorem ggL_law_X5_clash : GoodIn wsL_law wsX5_clash := goodIn_r _ [331, 15, 81, 82, 2, 83, 260, 261, 262, 14, 263, 127, 206, 207, 208, 209, 128, 129, 215, 216, 217, 218, 34, 219, 214, 203, 204, 36, 205, 138, 139, 332, 333, 334, 335, 307, 336, 337, 338, 339, 340, 341, 342, 343, 309, 310, 311, 312, 313, 314, 315, 786, 787, 788, 789, 790, 791, 792, 819, 820, 821, 822, 832, 833, 834] (by decide +kernel) (by decide +kernel)
set_option maxRecDepth 20000 in
theorem gL_law_X5_clash : GoodIn wsL_law (wsV RL 45 RX5 yX5_clash wsX5_clash) := goodIn_app (goodIn_of _ (by decide +kernel)) ggL_law_X5_clash
set_option maxRecDepth 20000 in
theorem ggL_law_X6_clash : GoodIn wsL_law wsX6_clash := goodIn_r _ [347, 147, 151, 152, 5, 153, 247, 248, 249, 250, 188, 189, 236, 237, 238, 239, 65, 251, 252, 253, 254, 61, 240, 241, 242, 243, 244, 245, 246, 228, 229, 230, 231, 62, 348, 349, 350, 324, 325, 326, 327, 63, 793, 794, 795, 796, 797, 798, 799, 800, 801, 802, 803, 804, 805, 806, 807, 808, 809, 810, 811, 812, 813, 814, 815, 816, 817, 818] (by decide +kernel) (by decide +kernel)
set_option maxRecDepth 20000 in
theorem gL_law_X6_clash : GoodIn wsL_law (wsV RL 48 RX6 yX6_clash wsX6_clash) := goodIn_app (goodIn_of _ (by decide +kernel)) ggL_law_X6_clash
set_option maxRecDepth 20000 in
theorem ggL_law_X5_putUp : GoodIn wsL_law wsX5_putUp := goodIn_r _ [354, 15, 76, 81, 82, 2, 83, 260, 261, 262, 14, 263, 127, 355, 356, 357, 358, 34, 359, 360, 361, 36, 362, 138, 139, 140, 363, 135, 136, 137, 134, 786, 787, 788, 789, 790, 791, 792, 819, 820, 821, 822, 832, 833, 834] (by decide +kernel) (by decide +kernel)
set_option maxRecDepth 20000 in
theorem gL_law_X5_putUp : GoodIn wsL_law (wsV RL 49 RX5 yX5_putUp wsX5_putUp) := goodIn_app (goodIn_of _ (by decide +kernel)) ggL_law_X5_putUp
set_option maxRecDepth 20000 in
theorem ggL_law_X6_putUp : GoodIn wsL_law wsX6_putUp := goodIn_r _ [367, 147, 151, 152, 5, 153, 277, 278, 279, 368, 369, 370, 371, 61, 62, 63, 793, 794, 795, 796, 797, 798, 799, 800, 801, 802, 803, 804, 805, 806, 807, 808, 809, 810, 811, 812, 813, 814, 815, 816, 817, 818] (by decide +kernel) (by decide +kernel)
set_option maxRecDepth 20000 in
theorem gL_law_X6_putUp : GoodIn wsL_law (wsV RL 53 RX6 yX6_putUp wsX6_putUp) := goodIn_app (goodIn_of _ (by decide +kernel)) ggL_law_X6_putUp
set_option maxRecDepth 20000 in
theorem ggL_law_X5_peel : GoodIn wsL_law wsX5_peel := goodIn_r _ [375, 15, 197, 198, 199, 200, 14, 201, 127, 34, 376, 377, 378, 379, 380, 207, 208, 209, 128, 129, 381, 211, 212, 213, 214, 203, 204, 36, 205, 138, 139, 359, 360, 361, 362, 140, 363, 135, 136, 137, 786, 787, 788, 789, 790, 791, 792, 832, 833, 834, 819, 820, 821, 822] (by decide +kernel) (by decide +kernel)
set_option maxRecDepth 20000 in
theorem gL_law_X5_peel : GoodIn wsL_law (wsV RL 54 RX5 yX5_peel wsX5_peel) := goodIn_app (goodIn_of _ (by decide +kernel)) ggL_law_X5_peel
set_option maxRecDepth 20000 in
theorem ggL_law_X6_peel : GoodIn wsL_law wsX6_peel := goodIn_r _ [385, 147, 386, 387, 388, 5, 389, 232, 233, 234, 235, 188, 189, 236, 237, 238, 239, 65, 240, 241, 242, 243, 244, 245, 246, 228, 229, 230, 231, 61, 62, 390, 391, 392, 393, 63, 793, 794, 795, 796, 797, 798, 799, 800, 801, 802, 803, 804, 805, 806, 807, 808, 809, 810, 811, 812, 813, 814, 815, 816, 817, 818] (by decide +kernel) (by decide +kernel)
set_option maxRecDepth 20000 in
theorem gL_law_X6_peel : GoodIn wsL_law (wsV RL 57 RX6 yX6_peel wsX6_peel) := goodIn_app (goodIn_of _ (by decide +kernel)) ggL_law_X6_peel
set_option maxRecDepth 20000 in
theorem ggL_law_X5_days : GoodIn wsL_law wsX5_days := goodIn_r _ [397, 74, 15, 77, 78, 79, 2, 80, 26, 81, 82, 83, 84, 85, 86, 28, 87, 88, 89, 90, 91, 92, 93, 94, 95, 96, 97, 98, 260, 261, 262, 14, 263, 127, 398, 399, 400, 102, 103, 104, 105, 53, 401, 402, 403, 404, 405, 406, 407, 16, 76, 408, 409, 410, 411, 412, 413, 414, 415, 128, 129, 123, 124, 125, 126, 416, 199, 200, 201, 34, 417, 418, 419, 420, 219, 421, 307, 130, 131, 132, 133, 134, 135, 136, 36, 137, 138, 139, 140, 422, 423, 424, 425, 426, 377, 378, 379, 380, 207, 208, 209, 381, 211, 212, 213, 214, 203, 204, 205, 359, 360, 361, 362, 363, 427, 356, 357, 358, 206, 215, 216, 217, 218, 303, 304, 305, 306, 308, 309, 310, 311, 312, 313, 314, 315, 292, 293, 294, 786, 787, 788, 789, 790, 791, 792, 828, 829, 830, 831, 819, 820, 821, 822, 832, 833, 834] (by decide +kernel) (by decide +kernel)
set_option maxRecDepth 20000 in
theorem gL_law_X5_days : GoodIn wsL_law (wsV RL 58 RX5 yX5_days wsX5_days) := goodIn_app (goodIn_of _ (by decide +kernel)) ggL_law_X5_days
set_option maxRecDepth 20000 in
theorem ggL_law_X6_days : GoodIn wsL_law wsX6_days := goodIn_r _ [431, 145, 147, 60, 148, 149, 5, 150, 151, 152, 153, 154, 155, 156, 157, 158, 159, 160, 58, 59, 161, 162, 163, 164, 432, 433, 434, 277, 278, 279, 435, 436, 437, 438, 439, 188, 440, 189, 441, 66, 61, 62, 63, 442, 443, 444, 445, 446, 447, 448, 449, 450, 386, 387, 388, 389, 232, 233, 234, 235, 236, 237, 238, 239, 65, 240, 241, 242, 243, 244, 245, 246, 228, 229, 230, 231, 390, 391, 392, 393, 368, 369, 370, 371, 247, 248, 249, 250, 251, 252, 253, 254, 451, 452, 453, 454, 320, 321, 322, 323, 324, 325, 326, 327, 455, 456, 457, 458, 793, 794, 795, 796, 797, 798, 799, 800, 801, 802, 803, 804, 805, 806, 807, 808, 809, 810, 811, 812, 813, 814, 815, 816, 817, 818] (by decide +kernel) (by decide +kernel)
set_option maxRecDepth 20000 in
theorem gL_law_X6_days : GoodIn wsL_law (wsV RL 62 RX6 yX6_days wsX6_days) := goodIn_app (goodIn_of _ (by decide +kernel)) ggL_law_X6_days
set_option maxRecDepth 20000 in
theorem ggL_law_X5_needs : GoodIn wsL_law wsX5_needs := goodIn_r _ [462, 15, 272, 198, 199, 200, 14, 201, 127, 34, 215, 216, 217, 218, 219, 214, 203, 204, 36, 205, 138, 139, 786, 787, 788, 789, 790, 791, 792, 819, 820, 821, 822, 832, 833, 834] (by decide +kernel) (by decide +kernel)
set_option maxRecDepth 20000 in
theorem gL_law_X5_needs : GoodIn wsL_law (wsV RL 63 RX5 yX5_needs wsX5_needs) := goodIn_app (goodIn_of _ (by decide +kernel)) ggL_law_X5_needs
set_option maxRecDepth 20000 in
theorem ggL_law_X6_needs : GoodIn wsL_law wsX6_needs := goodIn_r _ [466, 189, 224, 225, 226, 5, 227, 147, 236, 237, 238, 239, 65, 251, 252, 253, 254, 61, 240, 241, 242, 243, 244, 245, 246, 228, 229, 230, 231, 62, 793, 794, 795, 796, 797, 798, 799, 800, 801, 802, 803, 804, 805, 806, 807, 808, 809, 810, 811, 812, 813, 814, 815, 816, 817, 818] (by decide +kernel) (by decide +kernel)
set_option maxRecDepth 20000 in
theorem gL_law_X6_needs : GoodIn wsL_law (wsV RL 66 RX6 yX6_needs wsX6_needs) := goodIn_app (goodIn_of _ (by decide +kernel)) ggL_law_X6_needs
set_option maxRecDepth 20000 in
theorem ggL_law_X5_gets : GoodIn wsL_law wsX5_gets := goodIn_r _ [470, 15, 272, 81, 82, 2, 83, 260, 261, 262, 14, 263, 127, 303, 304, 305, 306, 34, 307, 308, 216, 217, 218, 219, 214, 203, 204, 36, 205, 138, 139, 309, 310, 311, 312, 313, 314, 315, 786, 787, 788, 789, 790, 791, 792, 819, 820, 821, 822, 832, 833, 834] (by decide +kernel) (by decide +kernel)
set_option maxRecDepth 20000 in
theorem gL_law_X5_gets : GoodIn wsL_law (wsV RL 67 RX5 yX5_gets wsX5_gets) := goodIn_app (goodIn_of _ (by decide +kernel)) ggL_law_X5_gets
set_option maxRecDepth 20000 in
theorem ggL_law_X6_gets : GoodIn wsL_law wsX6_gets := goodIn_r _ [474, 147, 189, 277, 278, 5, 279, 151, 152, 153, 236, 237, 238, 239, 65, 320, 321, 322, 323, 63, 251, 252, 253, 254, 61, 240, 241, 242, 243, 244, 245, 246, 228, 229, 230, 231, 62, 324, 325, 326, 327, 793, 794, 795, 796, 797, 798, 799, 800, 801, 802, 803, 804, 805, 806, 807, 808, 809, 810, 811, 812, 813, 814, 815, 816, 817, 818] (by decide +kernel) (by decide +kernel)
set_option maxRecDepth 20000 in
theorem gL_law_X6_gets : GoodIn wsL_law (wsV RL 70 RX6 yX6_gets wsX6_gets) := goodIn_app (goodIn_of _ (by decide +kernel)) ggL_law_X6_gets
set_option maxRecDepth 20000 in
theorem ggL_law_X5_without : GoodIn wsL_law wsX5_without := goodIn_r _ [478, 15, 76, 16, 81, 82, 2, 83, 260, 261, 262, 14, 263, 127, 479, 480, 481, 482, 483, 484, 485, 486, 413, 414, 415, 128, 129, 123, 124, 125, 126, 416, 199, 200, 201, 34, 417, 418, 419, 420, 219, 421, 307, 130, 131, 132, 133, 134, 135, 136, 36, 137, 138, 139, 140, 206, 207, 208, 209, 303, 304, 305, 306, 308, 216, 217, 218, 214, 203, 204, 205, 309, 310, 311, 312, 313, 314, 315, 786, 787, 788, 789, 790, 791, 792, 819, 820, 821, 822, 832, 833, 834] (by decide +kernel) (by decide +kernel)
set_option maxRecDepth 20000 in
theorem gL_law_X5_without : GoodIn wsL_law (wsV RL 71 RX5 yX5_without wsX5_without) := goodIn_app (goodIn_of _ (by decide +kernel)) ggL_law_X5_without
set_option maxRecDepth 20000 in
theorem ggL_law_X6_without : GoodIn wsL_law wsX6_without := goodIn_r _ [490, 147, 188, 189, 277, 278, 5, 279, 151, 152, 153, 236, 237, 238, 239, 65, 348, 349, 350, 320, 321, 322, 323, 63, 251, 252, 253, 254, 61, 240, 241, 242, 243, 244, 245, 246, 228, 229, 230, 231, 62, 324, 325, 326, 327, 793, 794, 795, 796, 797, 798, 799, 800, 801, 802, 803, 804, 805, 806, 807, 808, 809, 810, 811, 812, 813, 814, 815, 816, 817, 818] (by decide +kernel) (by decide +kernel)
set_option maxRecDepth 20000 in
theorem gL_law_X6_without : GoodIn wsL_law (wsV RL 74 RX6 yX6_without wsX6_without) := goodIn_app (goodIn_of _ (by decide +kernel)) ggL_law_X6_without
set_option maxRecDepth 20000 in
theorem ggL_law_X5_reading : GoodIn wsL_law wsX5_reading := goodIn_r _ [494, 15, 20, 75, 81, 82, 2, 83, 260, 261, 262, 14, 263, 127, 495, 496, 497, 19, 498, 499, 44, 45, 786, 787, 788, 789, 790, 791, 792, 823, 824, 825, 819, 820, 821, 822] (by decide +kernel) (by decide +kernel)
set_option maxRecDepth 20000 in
theorem gL_law_X5_reading : GoodIn wsL_law (wsV RL 75 RX5 yX5_reading wsX5_reading) := goodIn_app (goodIn_of _ (by decide +kernel)) ggL_law_X5_reading
set_option maxRecDepth 20000 in
theorem ggL_law_X6_reading : GoodIn wsL_law wsX6_reading := goodIn_r _ [503, 147, 190, 67, 68, 69, 151, 152, 5, 153, 277, 278, 279, 793, 794, 795, 796, 797, 798, 799, 800, 801, 802, 803, 804, 805, 806, 807, 808, 809, 810, 811, 812, 813, 814, 815, 816, 817, 818] (by decide +kernel) (by decide +kernel)
set_option maxRecDepth 20000 in
theorem gL_law_X6_reading : GoodIn wsL_law (wsV RL 78 RX6 yX6_reading wsX6_reading) := goodIn_app (goodIn_of _ (by decide +kernel)) ggL_law_X6_reading
set_option maxRecDepth 20000 in
theorem ggL_law_X5_back : GoodIn wsL_law wsX5_back := goodIn_r _ [507, 20, 75, 81, 82, 2, 83, 786, 787, 788, 789, 790, 791, 792, 823, 824, 825] (by decide +kernel) (by decide +kernel)
set_option maxRecDepth 20000 in
theorem gL_law_X5_back : GoodIn wsL_law (wsV RL 79 RX5 yX5_back wsX5_back) := goodIn_app (goodIn_of _ (by decide +kernel)) ggL_law_X5_back
set_option maxRecDepth 20000 in
theorem ggL_law_X6_back : GoodIn wsL_law wsX6_back := goodIn_r _ [511, 190, 151, 152, 5, 153, 793, 794, 795, 796, 797, 798, 799, 800, 801, 802, 803, 804, 805, 806, 807, 808, 809, 810, 811, 812, 813, 814, 815, 816, 817, 818] (by decide +kernel) (by decide +kernel)
set_option maxRecDepth 20000 in
theorem gL_law_X6_back : GoodIn wsL_law (wsV RL 82 RX6 yX6_back wsX6_back) := goodIn_app (goodIn_of _ (by decide +kernel)) ggL_law_X6_back
set_option maxRecDepth 20000 in
theorem ggL_law_X5_orders : GoodIn wsL_law wsX5_orders := goodIn_r _ [515, 15, 76, 24, 260, 261, 262, 14, 263, 127, 516, 517, 518, 2, 519, 520, 521, 522, 23, 523, 524, 341, 342, 343, 525, 526, 527, 528, 49, 529, 530, 531, 532, 16, 20, 533, 534, 535, 536, 128, 129, 123, 124, 125, 126, 537, 538, 539, 540, 416, 199, 200, 201, 34, 417, 418, 419, 420, 219, 421, 307, 130, 131, 132, 133, 134, 135, 136, 36, 137, 138, 139, 140, 541, 542, 543, 19, 544, 499, 44, 45, 545, 304, 305, 306, 308, 216, 217, 218, 214, 203, 204, 205, 309, 310, 311, 312, 313, 314, 315, 546, 547, 548, 549, 550, 551, 552, 553, 554, 555, 556, 557, 558, 559, 560, 561, 562, 563, 564, 565, 566, 786, 787, 788, 789, 790, 791, 792, 819, 820, 821, 822, 826, 827, 832, 833, 834, 823, 824, 825] (by decide +kernel) (by decide +kernel)
set_option maxRecDepth 20000 in
theorem gL_law_X5_orders : GoodIn wsL_law (wsV RL 83 RX5 yX5_orders wsX5_orders) := goodIn_app (goodIn_of _ (by decide +kernel)) ggL_law_X5_orders
set_option maxRecDepth 20000 in
theorem ggL_law_X6_orders : GoodIn wsL_law wsX6_orders := goodIn_r _ [570, 147, 65, 151, 152, 5, 153, 571, 572, 573, 574, 575, 576, 577, 244, 245, 246, 578, 579, 580, 581, 190, 67, 68, 69, 320, 321, 322, 323, 63, 251, 252, 253, 254, 61, 240, 241, 242, 243, 228, 229, 230, 231, 62, 324, 325, 326, 327, 793, 794, 795, 796, 797, 798, 799, 800, 801, 802, 803, 804, 805, 806, 807, 808, 809, 810, 811, 812, 813, 814, 815, 816, 817, 818] (by decide +kernel) (by decide +kernel)
set_option maxRecDepth 20000 in
theorem gL_law_X6_orders : GoodIn wsL_law (wsV RL 86 RX6 yX6_orders wsX6_orders) := goodIn_app (goodIn_of _ (by decide +kernel)) ggL_law_X6_orders
set_option maxRecDepth 20000 in
theorem ggL_law_X5_holds : GoodIn wsL_law wsX5_holds := goodIn_r _ [585, 15, 198, 199, 200, 14, 201, 127, 34, 586, 587, 588, 2, 589, 16, 20, 408, 409, 410, 411, 412, 413, 414, 415, 128, 129, 123, 124, 125, 126, 416, 417, 418, 419, 420, 219, 421, 307, 130, 131, 132, 133, 134, 135, 136, 36, 137, 138, 139, 140, 590, 591, 592, 593, 541, 542, 543, 19, 544, 499, 44, 45, 545, 304, 305, 306, 308, 216, 217, 218, 214, 203, 204, 205, 309, 310, 311, 312, 313, 314, 315, 786, 787, 788, 789, 790, 791, 792, 819, 820, 821, 822, 832, 833, 834, 823, 824, 825] (by decide +kernel) (by decide +kernel)
set_option maxRecDepth 20000 in
theorem gL_law_X5_holds : GoodIn wsL_law (wsV RL 87 RX5 yX5_holds wsX5_holds) := goodIn_app (goodIn_of _ (by decide +kernel)) ggL_law_X5_holds
set_option maxRecDepth 20000 in
theorem ggL_law_X6_holds : GoodIn wsL_law wsX6_holds := goodIn_r _ [597, 62, 224, 225, 226, 5, 227, 147, 236, 237, 238, 239, 65, 578, 579, 580, 581, 190, 67, 68, 69, 320, 321, 322, 323, 63, 251, 252, 253, 254, 61, 240, 241, 242, 243, 244, 245, 246, 228, 229, 230, 231, 324, 325, 326, 327, 793, 794, 795, 796, 797, 798, 799, 800, 801, 802, 803, 804, 805, 806, 807, 808, 809, 810, 811, 812, 813, 814, 815, 816, 817, 818] (by decide +kernel) (by decide +kernel)
set_option maxRecDepth 20000 in
theorem gL_law_X6_holds : GoodIn wsL_law (wsV RL 90 RX6 yX6_holds wsX6_holds) := goodIn_app (goodIn_of _ (by decide +kernel)) ggL_law_X6_holds
set_option maxRecDepth 20000 in
theorem ggL_law_X5_advices : GoodIn wsL_law wsX5_advices := goodIn_r _ [601, 15, 198, 199, 200, 14, 201, 127, 34, 586, 587, 588, 2, 589, 16, 20, 408, 409, 410, 411, 412, 413, 414, 415, 128, 129, 123, 124, 125, 126, 416, 417, 418, 419, 420, 219, 421, 307, 130, 131, 132, 133, 134, 135, 136, 36, 137, 138, 139, 140, 590, 591, 592, 593, 541, 542, 543, 19, 544, 499, 44, 45, 545, 304, 305, 306, 308, 216, 217, 218, 214, 203, 204, 205, 309, 310, 311, 312, 313, 314, 315, 786, 787, 788, 789, 790, 791, 792, 819, 820, 821, 822, 832, 833, 834, 823, 824, 825] (by decide +kernel) (by decide +kernel)
set_option maxRecDepth 20000 in
theorem gL_law_X5_advices : GoodIn wsL_law (wsV RL 91 RX5 yX5_advices wsX5_advices) := goodIn_app (goodIn_of _ (by decide +kernel)) ggL_law_X5_advices
set_option maxRecDepth 20000 in
theorem ggL_law_X6_advices : GoodIn wsL_law wsX6_advices := goodIn_r _ [605, 63, 224, 225, 226, 5, 227, 147, 236, 237, 238, 239, 65, 578, 579, 580, 581, 190, 67, 68, 69, 320, 321, 322, 323, 251, 252, 253, 254, 61, 240, 241, 242, 243, 244, 245, 246, 228, 229, 230, 231, 62, 324, 325, 326, 327, 793, 794, 795, 796, 797, 798, 799, 800, 801, 802, 803, 804, 805, 806, 807, 808, 809, 810, 811, 812, 813, 814, 815, 816, 817, 818] (by decide +kernel) (by decide +kernel)
set_option maxRecDepth 20000 in
theorem gL_law_X6_advices : GoodIn wsL_law (wsV RL 94 RX6 yX6_advices wsX6_advices) := goodIn_app (goodIn_of _ (by decide +kernel)) ggL_law_X6_advices
set_option maxRecDepth 20000 in
theorem ggL_law_X5_kinds : GoodIn wsL_law wsX5_kinds := goodIn_r _ [609, 15, 198, 199, 200, 14, 201, 127, 34, 586, 587, 588, 2, 589, 16, 20, 408, 409, 410, 411, 412, 413, 414, 415, 128, 129, 123, 124, 125, 126, 416, 417, 418, 419, 420, 219, 421, 307, 130, 131, 132, 133, 134, 135, 136, 36, 137, 138, 139, 140, 590, 591, 592, 593, 541, 542, 543, 19, 544, 499, 44, 45, 545, 304, 305, 306, 308, 216, 217, 218, 214, 203, 204, 205, 309, 310, 311, 312, 313, 314, 315, 786, 787, 788, 789, 790, 791, 792, 819, 820, 821, 822, 832, 833, 834, 823, 824, 825] (by decide +kernel) (by decide +kernel)
set_option maxRecDepth 20000 in
theorem gL_law_X5_kinds : GoodIn wsL_law (wsV RL 95 RX5 yX5_kinds wsX5_kinds) := goodIn_app (goodIn_of _ (by decide +kernel)) ggL_law_X5_kinds
set_option maxRecDepth 20000 in
theorem ggL_law_X6_kinds : GoodIn wsL_law wsX6_kinds := goodIn_r _ [613, 61, 224, 225, 226, 5, 227, 147, 236, 237, 238, 239, 65, 578, 579, 580, 581, 190, 67, 68, 69, 320, 321, 322, 323, 63, 251, 252, 253, 254, 240, 241, 242, 243, 244, 245, 246, 228, 229, 230, 231, 62, 324, 325, 326, 327, 793, 794, 795, 796, 797, 798, 799, 800, 801, 802, 803, 804, 805, 806, 807, 808, 809, 810, 811, 812, 813, 814, 815, 816, 817, 818] (by decide +kernel) (by decide +kernel)
set_option maxRecDepth 20000 in
theorem gL_law_X6_kinds : GoodIn wsL_law (wsV RL 98 RX6 yX6_kinds wsX6_kinds) := goodIn_app (goodIn_of _ (by decide +kernel)) ggL_law_X6_kinds
set_option maxRecDepth 20000 in
theorem ggL_law_X5_odds : GoodIn wsL_law wsX5_odds := goodIn_r _ [617, 15, 618, 272, 198, 199, 200, 14, 201, 127, 34, 81, 82, 2, 83, 215, 216, 217, 218, 219, 214, 203, 204, 36, 205, 138, 139, 619, 620, 621, 786, 787, 788, 789, 790, 791, 792, 819, 820, 821, 822, 832, 833, 834] (by decide +kernel) (by decide +kernel)
set_option maxRecDepth 20000 in
theorem gL_law_X5_odds : GoodIn wsL_law (wsV RL 99 RX5 yX5_odds wsX5_odds) := goodIn_app (goodIn_of _ (by decide +kernel)) ggL_law_X5_odds
set_option maxRecDepth 20000 in
theorem ggL_law_X6_odds : GoodIn wsL_law wsX6_odds := goodIn_r _ [625, 626, 189, 627, 224, 225, 226, 5, 227, 147, 151, 152, 153, 236, 237, 238, 239, 65, 251, 252, 253, 254, 61, 240, 241, 242, 243, 244, 245, 246, 228, 229, 230, 231, 62, 628, 629, 630, 793, 794, 795, 796, 797, 798, 799, 800, 801, 802, 803, 804, 805, 806, 807, 808, 809, 810, 811, 812, 813, 814, 815, 816, 817, 818] (by decide +kernel) (by decide +kernel)
set_option maxRecDepth 20000 in
theorem gL_law_X6_odds : GoodIn wsL_law (wsV RL 103 RX6 yX6_odds wsX6_odds) := goodIn_app (goodIn_of _ (by decide +kernel)) ggL_law_X6_odds
set_option maxRecDepth 20000 in
theorem ggL_law_X5_sheet : GoodIn wsL_law wsX5_sheet := goodIn_r _ [634, 74, 77, 78, 79, 2, 80, 26, 81, 82, 83, 95, 96, 97, 98, 635, 636, 637, 28, 638, 88, 89, 639, 341, 342, 343, 640, 526, 527, 94, 53, 786, 787, 788, 789, 790, 791, 792, 828, 829, 830, 831] (by decide +kernel) (by decide +kernel)
set_option maxRecDepth 20000 in
theorem gL_law_X5_sheet : GoodIn wsL_law (wsV RL 104 RX5 yX5_sheet wsX5_sheet) := goodIn_app (goodIn_of _ (by decide +kernel)) ggL_law_X5_sheet
set_option maxRecDepth 20000 in
theorem ggL_law_X6_sheet : GoodIn wsL_law wsX6_sheet := goodIn_r _ [644, 145, 58, 59, 60, 148, 149, 5, 150, 151, 152, 153, 154, 155, 156, 161, 162, 163, 164, 793, 794, 795, 796, 797, 798, 799, 800, 801, 802, 803, 804, 805, 806, 807, 808, 809, 810, 811, 812, 813, 814, 815, 816, 817, 818] (by decide +kernel) (by decide +kernel)
set_option maxRecDepth 20000 in
theorem gL_law_X6_sheet : GoodIn wsL_law (wsV RL 107 RX6 yX6_sheet wsX6_sheet) := goodIn_app (goodIn_of _ (by decide +kernel)) ggL_law_X6_sheet
set_option maxRecDepth 20000 in
theorem ggL_law_X5_lose : GoodIn wsL_law wsX5_lose := goodIn_r _ [648, 649, 77, 78, 79, 2, 80, 26, 81, 82, 83, 828, 829, 830, 831, 786, 787, 788, 789, 790, 791, 792] (by decide +kernel) (by decide +kernel)
set_option maxRecDepth 20000 in
theorem gL_law_X5_lose : GoodIn wsL_law (wsV RL 108 RX5 yX5_lose wsX5_lose) := goodIn_app (goodIn_of _ (by decide +kernel)) ggL_law_X5_lose
set_option maxRecDepth 20000 in
theorem ggL_law_X6_lose : GoodIn wsL_law wsX6_lose := goodIn_r _ [653, 58, 148, 149, 5, 150, 151, 152, 153, 793, 794, 795, 796, 797, 798, 799, 800, 801, 802, 803, 804, 805, 806, 807, 808, 809, 810, 811, 812, 813, 814, 815, 816, 817, 818] (by decide +kernel) (by decide +kernel)
set_option maxRecDepth 20000 in
theorem gL_law_X6_lose : GoodIn wsL_law (wsV RL 111 RX6 yX6_lose wsX6_lose) := goodIn_app (goodIn_of _ (by decide +kernel)) ggL_law_X6_lose
set_option maxRecDepth 20000 in
theorem ggL_law_X5_put : GoodIn wsL_law wsX5_put := goodIn_r _ [657, 74, 77, 78, 79, 2, 80, 26, 81, 82, 83, 658, 659, 660, 28, 661, 88, 94, 95, 96, 97, 98, 662, 663, 664, 665, 53, 666, 667, 668, 669, 89, 786, 787, 788, 789, 790, 791, 792, 828, 829, 830, 831] (by decide +kernel) (by decide +kernel)
set_option maxRecDepth 20000 in
theorem gL_law_X5_put : GoodIn wsL_law (wsV RL 112 RX5 yX5_put wsX5_put) := goodIn_app (goodIn_of _ (by decide +kernel)) ggL_law_X5_put
set_option maxRecDepth 20000 in
theorem ggL_law_X6_put : GoodIn wsL_law wsX6_put := goodIn_r _ [673, 145, 58, 59, 60, 148, 149, 5, 150, 151, 152, 153, 161, 162, 163, 164, 793, 794, 795, 796, 797, 798, 799, 800, 801, 802, 803, 804, 805, 806, 807, 808, 809, 810, 811, 812, 813, 814, 815, 816, 817, 818] (by decide +kernel) (by decide +kernel)
set_option maxRecDepth 20000 in
theorem gL_law_X6_put : GoodIn wsL_law (wsV RL 115 RX6 yX6_put wsX6_put) := goodIn_app (goodIn_of _ (by decide +kernel)) ggL_law_X6_put
set_option maxRecDepth 20000 in
theorem ggL_law_X5_cell : GoodIn wsL_law wsX5_cell := goodIn_r _ [677, 74, 618, 77, 78, 79, 2, 80, 26, 81, 82, 83, 84, 85, 86, 28, 87, 88, 89, 658, 659, 660, 661, 94, 102, 103, 104, 105, 53, 786, 787, 788, 789, 790, 791, 792, 828, 829, 830, 831] (by decide +kernel) (by decide +kernel)
set_option maxRecDepth 20000 in
theorem gL_law_X5_cell : GoodIn wsL_law (wsV RL 116 RX5 yX5_cell wsX5_cell) := goodIn_app (goodIn_of _ (by decide +kernel)) ggL_law_X5_cell
set_option maxRecDepth 20000 in
theorem ggL_law_X6_cell : GoodIn wsL_law wsX6_cell := goodIn_r _ [681, 145, 626, 58, 59, 60, 148, 149, 5, 150, 151, 152, 153, 154, 155, 156, 682, 683, 684, 685, 793, 794, 795, 796, 797, 798, 799, 800, 801, 802, 803, 804, 805, 806, 807, 808, 809, 810, 811, 812, 813, 814, 815, 816, 817, 818] (by decide +kernel) (by decide +kernel)
set_option maxRecDepth 20000 in
theorem gL_law_X6_cell : GoodIn wsL_law (wsV RL 120 RX6 yX6_cell wsX6_cell) := goodIn_app (goodIn_of _ (by decide +kernel)) ggL_law_X6_cell
set_option maxRecDepth 20000 in
theorem ggL_law_X5_copy : GoodIn wsL_law wsX5_copy := goodIn_r _ [689, 74, 690, 691, 692, 693, 694, 77, 78, 79, 2, 80, 26, 81, 82, 83, 695, 696, 697, 28, 698, 88, 89, 699, 91, 92, 93, 94, 95, 96, 97, 98, 786, 787, 788, 789, 790, 791, 792, 828, 829, 830, 831] (by decide +kernel) (by decide +kernel)
set_option maxRecDepth 20000 in
theorem gL_law_X5_copy : GoodIn wsL_law (wsV RL 121 RX5 yX5_copy wsX5_copy) := goodIn_app (goodIn_of _ (by decide +kernel)) ggL_law_X5_copy
set_option maxRecDepth 20000 in
theorem ggL_law_X6_copy : GoodIn wsL_law wsX6_copy := goodIn_r _ [703, 145, 58, 59, 60, 148, 149, 5, 150, 151, 152, 153, 161, 162, 163, 164, 793, 794, 795, 796, 797, 798, 799, 800, 801, 802, 803, 804, 805, 806, 807, 808, 809, 810, 811, 812, 813, 814, 815, 816, 817, 818] (by decide +kernel) (by decide +kernel)
set_option maxRecDepth 20000 in
theorem gL_law_X6_copy : GoodIn wsL_law (wsV RL 124 RX6 yX6_copy wsX6_copy) := goodIn_app (goodIn_of _ (by decide +kernel)) ggL_law_X6_copy
set_option maxRecDepth 20000 in
theorem ggL_law_X5_tell : GoodIn wsL_law wsX5_tell := goodIn_r _ [707, 15, 195, 198, 199, 200, 14, 201, 127, 34, 708, 709, 710, 2, 711, 712, 713, 714, 715, 716, 717, 718, 719, 720, 721, 722, 723, 724, 196, 786, 787, 788, 789, 790, 791, 792, 832, 833, 834, 819, 820, 821, 822] (by decide +kernel) (by decide +kernel)
set_option maxRecDepth 20000 in
theorem gL_law_X5_tell : GoodIn wsL_law (wsV RL 125 RX5 yX5_tell wsX5_tell) := goodIn_app (goodIn_of _ (by decide +kernel)) ggL_law_X5_tell
set_option maxRecDepth 20000 in
theorem ggL_law_X6_tell : GoodIn wsL_law wsX6_tell := goodIn_r _ [728, 62, 61, 224, 225, 226, 5, 227, 147, 729, 730, 731, 732, 733, 793, 794, 795, 796, 797, 798, 799, 800, 801, 802, 803, 804, 805, 806, 807, 808, 809, 810, 811, 812, 813, 814, 815, 816, 817, 818] (by decide +kernel) (by decide +kernel)
set_option maxRecDepth 20000 in
theorem gL_law_X6_tell : GoodIn wsL_law (wsV RL 128 RX6 yX6_tell wsX6_tell) := goodIn_app (goodIn_of _ (by decide +kernel)) ggL_law_X6_tell
set_option maxRecDepth 20000 in
theorem ggL_law_X5_stroke : GoodIn wsL_law wsX5_stroke := goodIn_r _ [737, 15, 195, 198, 199, 200, 14, 201, 127, 34, 738, 739, 740, 2, 741, 712, 713, 714, 715, 716, 742, 743, 744, 745, 197, 786, 787, 788, 789, 790, 791, 792, 832, 833, 834, 819, 820, 821, 822] (by decide +kernel) (by decide +kernel)
set_option maxRecDepth 20000 in
theorem gL_law_X5_stroke : GoodIn wsL_law (wsV RL 129 RX5 yX5_stroke wsX5_stroke) := goodIn_app (goodIn_of _ (by decide +kernel)) ggL_law_X5_stroke
set_option maxRecDepth 20000 in
theorem ggL_law_X6_stroke : GoodIn wsL_law wsX6_stroke := goodIn_r _ [749, 61, 63, 224, 225, 226, 5, 227, 147, 729, 730, 731, 732, 733, 793, 794, 795, 796, 797, 798, 799, 800, 801, 802, 803, 804, 805, 806, 807, 808, 809, 810, 811, 812, 813, 814, 815, 816, 817, 818] (by decide +kernel) (by decide +kernel)
set_option maxRecDepth 20000 in
theorem gL_law_X6_stroke : GoodIn wsL_law (wsV RL 132 RX6 yX6_stroke wsX6_stroke) := goodIn_app (goodIn_of _ (by decide +kernel)) ggL_law_X6_stroke
set_option maxRecDepth 20000 in
theorem ggL_law_X5_as : GoodIn wsL_law wsX5_as := goodIn_r _ [753, 74, 15, 198, 199, 200, 14, 201, 127, 34, 81, 82, 2, 83, 754, 755, 756, 36, 757, 138, 95, 96, 97, 98, 786, 787, 788, 789, 790, 791, 792, 819, 820, 821, 822, 832, 833, 834] (by decide +kernel) (by decide +kernel)
set_option maxRecDepth 20000 in
theorem gL_law_X5_as : GoodIn wsL_law (wsV RL 133 RX5 yX5_as wsX5_as) := goodIn_app (goodIn_of _ (by decide +kernel)) ggL_law_X5_as
set_option maxRecDepth 20000 in
theorem ggL_law_X6_as : GoodIn wsL_law wsX6_as := goodIn_r _ [761, 145, 61, 224, 225, 226, 5, 227, 147, 151, 152, 153, 161, 162, 163, 164, 793, 794, 795, 796, 797, 798, 799, 800, 801, 802, 803, 804, 805, 806, 807, 808, 809, 810, 811, 812, 813, 814, 815, 816, 817, 818] (by decide +kernel) (by decide +kernel)
set_option maxRecDepth 20000 in
theorem gL_law_X6_as : GoodIn wsL_law (wsV RL 136 RX6 yX6_as wsX6_as) := goodIn_app (goodIn_of _ (by decide +kernel)) ggL_law_X6_as
set_option maxRecDepth 20000 in
theorem ggL_law_X5_trace : GoodIn wsL_law wsX5_trace := goodIn_r _ [765, 716, 786, 787, 788, 789, 790, 791, 792] (by decide +kernel) (by decide +kernel)
set_option maxRecDepth 20000 in
theorem gL_law_X5_trace : GoodIn wsL_law (wsV RL 137 RX5 yX5_trace wsX5_trace) := goodIn_app (goodIn_of _ (by decide +kernel)) ggL_law_X5_trace
set_option maxRecDepth 20000 in
theorem ggL_law_X6_trace : GoodIn wsL_law wsX6_trace := goodIn_r _ [769, 733, 793, 794, 795, 796, 797, 798, 799, 800, 801, 802, 803, 804, 805, 806, 807, 808, 809, 810, 811, 812, 813, 814, 815, 816, 817, 818] (by decide +kernel) (by decide +kernel)
set_option maxRecDepth 20000 in
theorem gL_law_X6_trace : GoodIn wsL_law (wsV RL 140 RX6 yX6_trace wsX6_trace) := goodIn_app (goodIn_of _ (by decide +kernel)) ggL_law_X6_trace
set_option maxRecDepth 20000 in
theorem ggL_law_X5_fault : GoodIn wsL_law wsX5_fault := goodIn_r _ [773, 74, 786, 787, 788, 789, 790, 791, 792] (by decide +kernel) (by decide +kernel)
set_option maxRecDepth 20000 in
theorem gL_law_X5_fault : GoodIn wsL_law (wsV RL 141 RX5 yX5_fault wsX5_fault) := goodIn_app (goodIn_of _ (by decide +kernel)) ggL_law_X5_fault
set_option maxRecDepth 20000 in
theorem ggL_law_X6_fault : GoodIn wsL_law wsX6_fault := goodIn_r _ [777, 145, 793, 794, 795, 796, 797, 798, 799, 800, 801, 802, 803, 804, 805, 806, 807, 808, 809, 810, 811, 812, 813, 814, 815, 816, 817, 818] (by decide +kernel) (by decide +kernel)
set_option maxRecDepth 20000 in
theorem gL_law_X6_fault : GoodIn wsL_law (wsV RL 144 RX6 yX6_fault wsX6_fault) := goodIn_app (goodIn_of _ (by decide +kernel)) ggL_law_X6_fault
set_option maxRecDepth 20000 in
theorem ggL_law_X5_many : GoodIn wsL_law wsX5_many := goodIn_r _ [781, 15, 76, 259, 272, 20, 75, 206, 207, 208, 14, 209, 128, 129, 215, 216, 217, 218, 127, 34, 219, 214, 203, 204, 36, 205, 138, 139, 786, 787, 788, 789, 790, 791, 792, 819, 820, 821, 822, 823, 824, 825, 832, 833, 834] (by decide +kernel) (by decide +kernel)
set_option maxRecDepth 20000 in
theorem gL_law_X5_many : GoodIn wsL_law (wsV RL 145 RX5 yX5_many wsX5_many) := goodIn_app (goodIn_of _ (by decide +kernel)) ggL_law_X5_many
set_option maxRecDepth 20000 in
theorem ggL_law_X6_many : GoodIn wsL_law wsX6_many := goodIn_r _ [785, 147, 188, 189, 190, 247, 248, 249, 5, 250, 236, 237, 238, 239, 65, 251, 252, 253, 254, 61, 240, 241, 242, 243, 244, 245, 246, 228, 229, 230, 231, 62, 348, 349, 350, 793, 794, 795, 796, 797, 798, 799, 800, 801, 802, 803, 804, 805, 806, 807, 808, 809, 810, 811, 812, 813, 814, 815, 816, 817, 818] (by decide +kernel) (by decide +kernel)
set_option maxRecDepth 20000 in
theorem gL_law_X6_many : GoodIn wsL_law (wsV RL 148 RX6 yX6_many wsX6_many) := goodIn_app (goodIn_of _ (by decide +kernel)) ggL_law_X6_many
