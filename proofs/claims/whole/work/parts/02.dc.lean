theorem dX5_leave_0 : decode cX5_leave 0 = .ok (.aload_n 0, 1) := by decide +kernel
theorem dX5_leave_1 : decode cX5_leave 1 = .ok (.bipush 31, 2) := by decide +kernel
theorem dX5_leave_3 : decode cX5_leave 3 = .ok (.aload_n 0, 1) := by decide +kernel
theorem dX5_leave_4 : decode cX5_leave 4 = .ok (.getfield 223, 3) := by decide +kernel
theorem dX5_leave_7 : decode cX5_leave 7 = .ok (.imul, 1) := by decide +kernel
theorem dX5_leave_8 : decode cX5_leave 8 = .ok (.iload_n 1, 1) := by decide +kernel
theorem dX5_leave_9 : decode cX5_leave 9 = .ok (.iadd, 1) := by decide +kernel
theorem dX5_leave_10 : decode cX5_leave 10 = .ok (.putfield 223, 3) := by decide +kernel
theorem dX5_leave_13 : decode cX5_leave 13 = .ok (.return_, 1) := by decide +kernel
set_option maxRecDepth 20000 in
theorem ggX5_tellStripe_X5_leave : GoodIn wsX5_tellStripe wsX5_leave := goodIn_r _ [6, 7, 11, 12, 13, 14, 15, 16, 17] (by decide +kernel) (by decide +kernel)
set_option maxRecDepth 20000 in
theorem gX5_tellStripe_X5_leave : GoodIn wsX5_tellStripe (wsV RX5 266 RX5 yX5_leave wsX5_leave) := goodIn_app (goodIn_of _ (by decide +kernel)) ggX5_tellStripe_X5_leave
theorem dX5_tellStripe_0 : decode cX5_tellStripe 0 = .ok (.aload_n 0, 1) := by decide +kernel
theorem dX5_tellStripe_1 : decode cX5_tellStripe 1 = .ok (.iconst 1, 1) := by decide +kernel
theorem dX5_tellStripe_2 : decode cX5_tellStripe 2 = .ok (.invokevirtual 266, 3) := by decide +kernel
theorem dX5_tellStripe_5 : decode cX5_tellStripe 5 = .ok (.aload_n 1, 1) := by decide +kernel
theorem dX5_tellStripe_6 : decode cX5_tellStripe 6 = .ok (.getfield 86, 3) := by decide +kernel
theorem dX5_tellStripe_9 : decode cX5_tellStripe 9 = .ok (.ireturn, 1) := by decide +kernel
set_option maxRecDepth 20000 in
theorem ggX5_tellTrellis_X5_leave : GoodIn wsX5_tellTrellis wsX5_leave := goodIn_r _ [5, 6, 12, 13, 14, 15, 16, 17, 18] (by decide +kernel) (by decide +kernel)
set_option maxRecDepth 20000 in
theorem gX5_tellTrellis_X5_leave : GoodIn wsX5_tellTrellis (wsV RX5 266 RX5 yX5_leave wsX5_leave) := goodIn_app (goodIn_of _ (by decide +kernel)) ggX5_tellTrellis_X5_leave
set_option maxRecDepth 20000 in
theorem ggX5_tellTrellis_X5_tellStripe : GoodIn wsX5_tellTrellis wsX5_tellStripe := goodIn_r _ [10, 11, 1, 2, 3, 4, 5, 6, 19, 20, 21, 12, 13, 14, 15, 16, 17, 18] (by decide +kernel) (by decide +kernel)
set_option maxRecDepth 20000 in
theorem gX5_tellTrellis_X5_tellStripe : GoodIn wsX5_tellTrellis (wsV RX5 210 RX5 yX5_tellStripe wsX5_tellStripe) := goodIn_app (goodIn_of _ (by decide +kernel)) ggX5_tellTrellis_X5_tellStripe
theorem dX5_tellTrellis_0 : decode cX5_tellTrellis 0 = .ok (.aload_n 0, 1) := by decide +kernel
theorem dX5_tellTrellis_1 : decode cX5_tellTrellis 1 = .ok (.iconst 2, 1) := by decide +kernel
theorem dX5_tellTrellis_2 : decode cX5_tellTrellis 2 = .ok (.invokevirtual 266, 3) := by decide +kernel
theorem dX5_tellTrellis_5 : decode cX5_tellTrellis 5 = .ok (.aload_n 0, 1) := by decide +kernel
theorem dX5_tellTrellis_6 : decode cX5_tellTrellis 6 = .ok (.aload_n 1, 1) := by decide +kernel
theorem dX5_tellTrellis_7 : decode cX5_tellTrellis 7 = .ok (.invokevirtual 210, 3) := by decide +kernel
theorem dX5_tellTrellis_10 : decode cX5_tellTrellis 10 = .ok (.bipush 100, 2) := by decide +kernel
theorem dX5_tellTrellis_12 : decode cX5_tellTrellis 12 = .ok (.iadd, 1) := by decide +kernel
theorem dX5_tellTrellis_13 : decode cX5_tellTrellis 13 = .ok (.ireturn, 1) := by decide +kernel
set_option maxRecDepth 20000 in
theorem ggX5_tellRed_X5_leave : GoodIn wsX5_tellRed wsX5_leave := goodIn_r _ [5, 6, 16, 17, 18, 19, 20, 21, 22] (by decide +kernel) (by decide +kernel)
set_option maxRecDepth 20000 in
theorem gX5_tellRed_X5_leave : GoodIn wsX5_tellRed (wsV RX5 266 RX5 yX5_leave wsX5_leave) := goodIn_app (goodIn_of _ (by decide +kernel)) ggX5_tellRed_X5_leave
set_option maxRecDepth 20000 in
theorem ggX5_tellRed_X5_tellTrellis : GoodIn wsX5_tellRed wsX5_tellTrellis := goodIn_r _ [10, 1, 2, 3, 4, 5, 6, 11, 12, 13, 14, 15, 16, 17, 18, 19, 20, 21, 22, 23, 24, 25] (by decide +kernel) (by decide +kernel)
set_option maxRecDepth 20000 in
theorem gX5_tellRed_X5_tellTrellis : GoodIn wsX5_tellRed (wsV RX5 207 RX5 yX5_tellTrellis wsX5_tellTrellis) := goodIn_app (goodIn_of _ (by decide +kernel)) ggX5_tellRed_X5_tellTrellis
set_option maxRecDepth 20000 in
theorem ggX5_tellRed_X5_tellStripe : GoodIn wsX5_tellRed wsX5_tellStripe := goodIn_r _ [14, 15, 1, 2, 3, 4, 5, 6, 23, 24, 25, 16, 17, 18, 19, 20, 21, 22] (by decide +kernel) (by decide +kernel)
set_option maxRecDepth 20000 in
theorem gX5_tellRed_X5_tellStripe : GoodIn wsX5_tellRed (wsV RX5 210 RX5 yX5_tellStripe wsX5_tellStripe) := goodIn_app (goodIn_of _ (by decide +kernel)) ggX5_tellRed_X5_tellStripe
theorem dX5_tellRed_0 : decode cX5_tellRed 0 = .ok (.aload_n 0, 1) := by decide +kernel
theorem dX5_tellRed_1 : decode cX5_tellRed 1 = .ok (.iconst 3, 1) := by decide +kernel
theorem dX5_tellRed_2 : decode cX5_tellRed 2 = .ok (.invokevirtual 266, 3) := by decide +kernel
theorem dX5_tellRed_5 : decode cX5_tellRed 5 = .ok (.aload_n 0, 1) := by decide +kernel
theorem dX5_tellRed_6 : decode cX5_tellRed 6 = .ok (.aload_n 1, 1) := by decide +kernel
theorem dX5_tellRed_7 : decode cX5_tellRed 7 = .ok (.invokevirtual 207, 3) := by decide +kernel
theorem dX5_tellRed_10 : decode cX5_tellRed 10 = .ok (.istore_n 2, 1) := by decide +kernel
theorem dX5_tellRed_11 : decode cX5_tellRed 11 = .ok (.iload_n 2, 1) := by decide +kernel
theorem dX5_tellRed_12 : decode cX5_tellRed 12 = .ok (.aload_n 0, 1) := by decide +kernel
theorem dX5_tellRed_13 : decode cX5_tellRed 13 = .ok (.aload_n 1, 1) := by decide +kernel
theorem dX5_tellRed_14 : decode cX5_tellRed 14 = .ok (.invokevirtual 210, 3) := by decide +kernel
theorem dX5_tellRed_17 : decode cX5_tellRed 17 = .ok (.iadd, 1) := by decide +kernel
theorem dX5_tellRed_18 : decode cX5_tellRed 18 = .ok (.ireturn, 1) := by decide +kernel
set_option maxRecDepth 20000 in
theorem ggX5_strokeLent_X5_leave : GoodIn wsX5_strokeLent wsX5_leave := goodIn_r _ [6, 7, 11, 12, 13, 14, 15, 16, 17] (by decide +kernel) (by decide +kernel)
set_option maxRecDepth 20000 in
theorem gX5_strokeLent_X5_leave : GoodIn wsX5_strokeLent (wsV RX5 266 RX5 yX5_leave wsX5_leave) := goodIn_app (goodIn_of _ (by decide +kernel)) ggX5_strokeLent_X5_leave
theorem dX5_strokeLent_0 : decode cX5_strokeLent 0 = .ok (.aload_n 0, 1) := by decide +kernel
theorem dX5_strokeLent_1 : decode cX5_strokeLent 1 = .ok (.iconst 4, 1) := by decide +kernel
theorem dX5_strokeLent_2 : decode cX5_strokeLent 2 = .ok (.invokevirtual 266, 3) := by decide +kernel
theorem dX5_strokeLent_5 : decode cX5_strokeLent 5 = .ok (.aload_n 1, 1) := by decide +kernel
theorem dX5_strokeLent_6 : decode cX5_strokeLent 6 = .ok (.getfield 89, 3) := by decide +kernel
theorem dX5_strokeLent_9 : decode cX5_strokeLent 9 = .ok (.ireturn, 1) := by decide +kernel
set_option maxRecDepth 20000 in
theorem ggX5_strokeRed_X5_leave : GoodIn wsX5_strokeRed wsX5_leave := goodIn_r _ [5, 6, 7, 8, 9, 10, 11, 12, 13] (by decide +kernel) (by decide +kernel)
set_option maxRecDepth 20000 in
theorem gX5_strokeRed_X5_leave : GoodIn wsX5_strokeRed (wsV RX5 266 RX5 yX5_leave wsX5_leave) := goodIn_app (goodIn_of _ (by decide +kernel)) ggX5_strokeRed_X5_leave
theorem dX5_strokeRed_0 : decode cX5_strokeRed 0 = .ok (.aload_n 0, 1) := by decide +kernel
theorem dX5_strokeRed_1 : decode cX5_strokeRed 1 = .ok (.iconst 5, 1) := by decide +kernel
theorem dX5_strokeRed_2 : decode cX5_strokeRed 2 = .ok (.invokevirtual 266, 3) := by decide +kernel
theorem dX5_strokeRed_5 : decode cX5_strokeRed 5 = .ok (.bipush 10, 2) := by decide +kernel
theorem dX5_strokeRed_7 : decode cX5_strokeRed 7 = .ok (.ireturn, 1) := by decide +kernel
theorem dX6_init_0 : decode cX6_init 0 = .ok (.aload_n 0, 1) := by decide +kernel
theorem dX6_init_1 : decode cX6_init 1 = .ok (.invokespecial 1, 3) := by decide +kernel
theorem dX6_init_4 : decode cX6_init 4 = .ok (.aload_n 0, 1) := by decide +kernel
theorem dX6_init_5 : decode cX6_init 5 = .ok (.iconst 4, 1) := by decide +kernel
theorem dX6_init_6 : decode cX6_init 6 = .ok (.newarray .int, 2) := by decide +kernel
theorem dX6_init_8 : decode cX6_init 8 = .ok (.dup, 1) := by decide +kernel
theorem dX6_init_9 : decode cX6_init 9 = .ok (.iconst 0, 1) := by decide +kernel
theorem dX6_init_10 : decode cX6_init 10 = .ok (.bipush (-9), 2) := by decide +kernel
theorem dX6_init_12 : decode cX6_init 12 = .ok (.iastore, 1) := by decide +kernel
theorem dX6_init_13 : decode cX6_init 13 = .ok (.dup, 1) := by decide +kernel
theorem dX6_init_14 : decode cX6_init 14 = .ok (.iconst 1, 1) := by decide +kernel
theorem dX6_init_15 : decode cX6_init 15 = .ok (.bipush (-9), 2) := by decide +kernel
theorem dX6_init_17 : decode cX6_init 17 = .ok (.iastore, 1) := by decide +kernel
theorem dX6_init_18 : decode cX6_init 18 = .ok (.dup, 1) := by decide +kernel
theorem dX6_init_19 : decode cX6_init 19 = .ok (.iconst 2, 1) := by decide +kernel
theorem dX6_init_20 : decode cX6_init 20 = .ok (.bipush (-9), 2) := by decide +kernel
theorem dX6_init_22 : decode cX6_init 22 = .ok (.iastore, 1) := by decide +kernel
theorem dX6_init_23 : decode cX6_init 23 = .ok (.dup, 1) := by decide +kernel
theorem dX6_init_24 : decode cX6_init 24 = .ok (.iconst 3, 1) := by decide +kernel
theorem dX6_init_25 : decode cX6_init 25 = .ok (.bipush (-9), 2) := by decide +kernel
theorem dX6_init_27 : decode cX6_init 27 = .ok (.iastore, 1) := by decide +kernel
theorem dX6_init_28 : decode cX6_init 28 = .ok (.putfield 9, 3) := by decide +kernel
theorem dX6_init_31 : decode cX6_init 31 = .ok (.aload_n 0, 1) := by decide +kernel
theorem dX6_init_32 : decode cX6_init 32 = .ok (.iconst 4, 1) := by decide +kernel
theorem dX6_init_33 : decode cX6_init 33 = .ok (.newarray .int, 2) := by decide +kernel
theorem dX6_init_35 : decode cX6_init 35 = .ok (.putfield 13, 3) := by decide +kernel
theorem dX6_init_38 : decode cX6_init 38 = .ok (.aload_n 0, 1) := by decide +kernel
theorem dX6_init_39 : decode cX6_init 39 = .ok (.sipush 240, 3) := by decide +kernel
theorem dX6_init_42 : decode cX6_init 42 = .ok (.newarray .int, 2) := by decide +kernel
theorem dX6_init_44 : decode cX6_init 44 = .ok (.putfield 16, 3) := by decide +kernel
theorem dX6_init_47 : decode cX6_init 47 = .ok (.aload_n 0, 1) := by decide +kernel
theorem dX6_init_48 : decode cX6_init 48 = .ok (.bipush 6, 2) := by decide +kernel
theorem dX6_init_50 : decode cX6_init 50 = .ok (.newarray .int, 2) := by decide +kernel
theorem dX6_init_52 : decode cX6_init 52 = .ok (.putfield 19, 3) := by decide +kernel
theorem dX6_init_55 : decode cX6_init 55 = .ok (.aload_n 0, 1) := by decide +kernel
theorem dX6_init_56 : decode cX6_init 56 = .ok (.bipush 6, 2) := by decide +kernel
theorem dX6_init_58 : decode cX6_init 58 = .ok (.newarray .int, 2) := by decide +kernel
theorem dX6_init_60 : decode cX6_init 60 = .ok (.putfield 22, 3) := by decide +kernel
theorem dX6_init_63 : decode cX6_init 63 = .ok (.aload_n 0, 1) := by decide +kernel
theorem dX6_init_64 : decode cX6_init 64 = .ok (.bipush 6, 2) := by decide +kernel
theorem dX6_init_66 : decode cX6_init 66 = .ok (.newarray .int, 2) := by decide +kernel
theorem dX6_init_68 : decode cX6_init 68 = .ok (.putfield 25, 3) := by decide +kernel
theorem dX6_init_71 : decode cX6_init 71 = .ok (.aload_n 0, 1) := by decide +kernel
theorem dX6_init_72 : decode cX6_init 72 = .ok (.bipush 18, 2) := by decide +kernel
theorem dX6_init_74 : decode cX6_init 74 = .ok (.newarray .int, 2) := by decide +kernel
theorem dX6_init_76 : decode cX6_init 76 = .ok (.putfield 28, 3) := by decide +kernel
theorem dX6_init_79 : decode cX6_init 79 = .ok (.aload_n 0, 1) := by decide +kernel
theorem dX6_init_80 : decode cX6_init 80 = .ok (.bipush 6, 2) := by decide +kernel
theorem dX6_init_82 : decode cX6_init 82 = .ok (.newarray .int, 2) := by decide +kernel
theorem dX6_init_84 : decode cX6_init 84 = .ok (.putfield 31, 3) := by decide +kernel
theorem dX6_init_87 : decode cX6_init 87 = .ok (.aload_n 0, 1) := by decide +kernel
theorem dX6_init_88 : decode cX6_init 88 = .ok (.bipush 18, 2) := by decide +kernel
theorem dX6_init_90 : decode cX6_init 90 = .ok (.newarray .int, 2) := by decide +kernel
theorem dX6_init_92 : decode cX6_init 92 = .ok (.putfield 34, 3) := by decide +kernel
theorem dX6_init_95 : decode cX6_init 95 = .ok (.aload_n 0, 1) := by decide +kernel
theorem dX6_init_96 : decode cX6_init 96 = .ok (.bipush 8, 2) := by decide +kernel
theorem dX6_init_98 : decode cX6_init 98 = .ok (.newarray .int, 2) := by decide +kernel
theorem dX6_init_100 : decode cX6_init 100 = .ok (.putfield 37, 3) := by decide +kernel
theorem dX6_init_103 : decode cX6_init 103 = .ok (.aload_n 0, 1) := by decide +kernel
theorem dX6_init_104 : decode cX6_init 104 = .ok (.bipush 8, 2) := by decide +kernel
theorem dX6_init_106 : decode cX6_init 106 = .ok (.newarray .int, 2) := by decide +kernel
theorem dX6_init_108 : decode cX6_init 108 = .ok (.putfield 40, 3) := by decide +kernel
theorem dX6_init_111 : decode cX6_init 111 = .ok (.aload_n 0, 1) := by decide +kernel
theorem dX6_init_112 : decode cX6_init 112 = .ok (.bipush 8, 2) := by decide +kernel
theorem dX6_init_114 : decode cX6_init 114 = .ok (.newarray .int, 2) := by decide +kernel
theorem dX6_init_116 : decode cX6_init 116 = .ok (.putfield 43, 3) := by decide +kernel
theorem dX6_init_119 : decode cX6_init 119 = .ok (.return_, 1) := by decide +kernel
theorem dX6_fails_0 : decode cX6_fails 0 = .ok (.aload_n 0, 1) := by decide +kernel
theorem dX6_fails_1 : decode cX6_fails 1 = .ok (.iload_n 1, 1) := by decide +kernel
theorem dX6_fails_2 : decode cX6_fails 2 = .ok (.putfield 46, 3) := by decide +kernel
theorem dX6_fails_5 : decode cX6_fails 5 = .ok (.bipush (-10), 2) := by decide +kernel
theorem dX6_fails_7 : decode cX6_fails 7 = .ok (.iload_n 1, 1) := by decide +kernel
theorem dX6_fails_8 : decode cX6_fails 8 = .ok (.isub, 1) := by decide +kernel
theorem dX6_fails_9 : decode cX6_fails 9 = .ok (.ireturn, 1) := by decide +kernel
theorem dX6_lost_0 : decode cX6_lost 0 = .ok (.aload_n 0, 1) := by decide +kernel
theorem dX6_lost_1 : decode cX6_lost 1 = .ok (.iload_n 1, 1) := by decide +kernel
theorem dX6_lost_2 : decode cX6_lost 2 = .ok (.putfield 46, 3) := by decide +kernel
theorem dX6_lost_5 : decode cX6_lost 5 = .ok (.ldc2_w 50, 3) := by decide +kernel
theorem dX6_lost_8 : decode cX6_lost 8 = .ok (.lreturn, 1) := by decide +kernel
theorem dX6_within_0 : decode cX6_within 0 = .ok (.iload_n 0, 1) := by decide +kernel
theorem dX6_within_1 : decode cX6_within 1 = .ok (.iload_n 1, 1) := by decide +kernel
theorem dX6_within_2 : decode cX6_within 2 = .ok (.if_icmp .lt 12, 3) := by decide +kernel
theorem dX6_within_5 : decode cX6_within 5 = .ok (.iload_n 0, 1) := by decide +kernel
theorem dX6_within_6 : decode cX6_within 6 = .ok (.iload_n 2, 1) := by decide +kernel
theorem dX6_within_7 : decode cX6_within 7 = .ok (.if_icmp .gt 7, 3) := by decide +kernel
theorem dX6_within_10 : decode cX6_within 10 = .ok (.iconst 1, 1) := by decide +kernel
theorem dX6_within_11 : decode cX6_within 11 = .ok (.goto 4, 3) := by decide +kernel
theorem dX6_within_14 : decode cX6_within 14 = .ok (.iconst 0, 1) := by decide +kernel
theorem dX6_within_15 : decode cX6_within 15 = .ok (.ireturn, 1) := by decide +kernel
set_option maxRecDepth 20000 in
theorem ggX6_isSheet_X6_within : GoodIn wsX6_isSheet wsX6_within := goodIn_r _ [4] (by decide +kernel) (by decide +kernel)
set_option maxRecDepth 20000 in
theorem gX6_isSheet_X6_within : GoodIn wsX6_isSheet (va_wsS RX6 52 yX6_within wsX6_within) := goodIn_app (goodIn_of _ (by decide +kernel)) ggX6_isSheet_X6_within
theorem dX6_isSheet_0 : decode cX6_isSheet 0 = .ok (.iload_n 0, 1) := by decide +kernel
theorem dX6_isSheet_1 : decode cX6_isSheet 1 = .ok (.iconst 0, 1) := by decide +kernel
theorem dX6_isSheet_2 : decode cX6_isSheet 2 = .ok (.iconst 3, 1) := by decide +kernel
theorem dX6_isSheet_3 : decode cX6_isSheet 3 = .ok (.invokestatic 52, 3) := by decide +kernel
theorem dX6_isSheet_6 : decode cX6_isSheet 6 = .ok (.ireturn, 1) := by decide +kernel
set_option maxRecDepth 20000 in
theorem ggX6_isSort_X6_within : GoodIn wsX6_isSort wsX6_within := goodIn_r _ [4] (by decide +kernel) (by decide +kernel)
set_option maxRecDepth 20000 in
theorem gX6_isSort_X6_within : GoodIn wsX6_isSort (va_wsS RX6 52 yX6_within wsX6_within) := goodIn_app (goodIn_of _ (by decide +kernel)) ggX6_isSort_X6_within
theorem dX6_isSort_0 : decode cX6_isSort 0 = .ok (.iload_n 0, 1) := by decide +kernel
theorem dX6_isSort_1 : decode cX6_isSort 1 = .ok (.iconst 0, 1) := by decide +kernel
theorem dX6_isSort_2 : decode cX6_isSort 2 = .ok (.iconst 2, 1) := by decide +kernel
theorem dX6_isSort_3 : decode cX6_isSort 3 = .ok (.invokestatic 52, 3) := by decide +kernel
theorem dX6_isSort_6 : decode cX6_isSort 6 = .ok (.ireturn, 1) := by decide +kernel
theorem dX6_against_0 : decode cX6_against 0 = .ok (.aload_n 0, 1) := by decide +kernel
theorem dX6_against_1 : decode cX6_against 1 = .ok (.getfield 9, 3) := by decide +kernel
theorem dX6_against_4 : decode cX6_against 4 = .ok (.iload_n 1, 1) := by decide +kernel
theorem dX6_against_5 : decode cX6_against 5 = .ok (.iaload, 1) := by decide +kernel
theorem dX6_against_6 : decode cX6_against 6 = .ok (.bipush (-9), 2) := by decide +kernel
theorem dX6_against_8 : decode cX6_against 8 = .ok (.if_icmp .eq 15, 3) := by decide +kernel
theorem dX6_against_11 : decode cX6_against 11 = .ok (.aload_n 0, 1) := by decide +kernel
theorem dX6_against_12 : decode cX6_against 12 = .ok (.getfield 9, 3) := by decide +kernel
theorem dX6_against_15 : decode cX6_against 15 = .ok (.iload_n 1, 1) := by decide +kernel
theorem dX6_against_16 : decode cX6_against 16 = .ok (.iaload, 1) := by decide +kernel
theorem dX6_against_17 : decode cX6_against 17 = .ok (.iload_n 2, 1) := by decide +kernel
theorem dX6_against_18 : decode cX6_against 18 = .ok (.if_icmp .eq 5, 3) := by decide +kernel
theorem dX6_against_21 : decode cX6_against 21 = .ok (.iconst 2, 1) := by decide +kernel
theorem dX6_against_22 : decode cX6_against 22 = .ok (.ireturn, 1) := by decide +kernel
theorem dX6_against_23 : decode cX6_against 23 = .ok (.aload_n 0, 1) := by decide +kernel
theorem dX6_against_24 : decode cX6_against 24 = .ok (.getfield 9, 3) := by decide +kernel
theorem dX6_against_27 : decode cX6_against 27 = .ok (.iload_n 1, 1) := by decide +kernel
theorem dX6_against_28 : decode cX6_against 28 = .ok (.iaload, 1) := by decide +kernel
theorem dX6_against_29 : decode cX6_against 29 = .ok (.bipush (-9), 2) := by decide +kernel
theorem dX6_against_31 : decode cX6_against 31 = .ok (.if_icmp .ne 5, 3) := by decide +kernel
theorem dX6_against_34 : decode cX6_against 34 = .ok (.iconst 1, 1) := by decide +kernel
theorem dX6_against_35 : decode cX6_against 35 = .ok (.ireturn, 1) := by decide +kernel
theorem dX6_against_36 : decode cX6_against 36 = .ok (.iload 4, 2) := by decide +kernel
theorem dX6_against_38 : decode cX6_against 38 = .ok (.ifCond .ge 5, 3) := by decide +kernel
theorem dX6_against_41 : decode cX6_against 41 = .ok (.iconst 4, 1) := by decide +kernel
theorem dX6_against_42 : decode cX6_against 42 = .ok (.ireturn, 1) := by decide +kernel
theorem dX6_against_43 : decode cX6_against 43 = .ok (.iload_n 3, 1) := by decide +kernel
theorem dX6_against_44 : decode cX6_against 44 = .ok (.ifCond .lt 26, 3) := by decide +kernel
theorem dX6_against_47 : decode cX6_against 47 = .ok (.iload_n 3, 1) := by decide +kernel
theorem dX6_against_48 : decode cX6_against 48 = .ok (.aload_n 0, 1) := by decide +kernel
theorem dX6_against_49 : decode cX6_against 49 = .ok (.getfield 13, 3) := by decide +kernel
theorem dX6_against_52 : decode cX6_against 52 = .ok (.iload_n 1, 1) := by decide +kernel
theorem dX6_against_53 : decode cX6_against 53 = .ok (.iaload, 1) := by decide +kernel
theorem dX6_against_54 : decode cX6_against 54 = .ok (.if_icmp .gt 16, 3) := by decide +kernel
theorem dX6_against_57 : decode cX6_against 57 = .ok (.iload 4, 2) := by decide +kernel
theorem dX6_against_59 : decode cX6_against 59 = .ok (.aload_n 0, 1) := by decide +kernel
theorem dX6_against_60 : decode cX6_against 60 = .ok (.getfield 13, 3) := by decide +kernel
theorem dX6_against_63 : decode cX6_against 63 = .ok (.iload_n 1, 1) := by decide +kernel
theorem dX6_against_64 : decode cX6_against 64 = .ok (.iaload, 1) := by decide +kernel
theorem dX6_against_65 : decode cX6_against 65 = .ok (.iload_n 3, 1) := by decide +kernel
theorem dX6_against_66 : decode cX6_against 66 = .ok (.isub, 1) := by decide +kernel
theorem dX6_against_67 : decode cX6_against 67 = .ok (.if_icmp .le 7, 3) := by decide +kernel
theorem dX6_against_70 : decode cX6_against 70 = .ok (.iconst 3, 1) := by decide +kernel
theorem dX6_against_71 : decode cX6_against 71 = .ok (.goto 4, 3) := by decide +kernel
theorem dX6_against_74 : decode cX6_against 74 = .ok (.iconst 0, 1) := by decide +kernel
theorem dX6_against_75 : decode cX6_against 75 = .ok (.ireturn, 1) := by decide +kernel
theorem dX6_isLayer_0 : decode cX6_isLayer 0 = .ok (.iload_n 1, 1) := by decide +kernel
theorem dX6_isLayer_1 : decode cX6_isLayer 1 = .ok (.ifCond .lt 15, 3) := by decide +kernel
theorem dX6_isLayer_4 : decode cX6_isLayer 4 = .ok (.iload_n 1, 1) := by decide +kernel
theorem dX6_isLayer_5 : decode cX6_isLayer 5 = .ok (.aload_n 0, 1) := by decide +kernel
theorem dX6_isLayer_6 : decode cX6_isLayer 6 = .ok (.getfield 56, 3) := by decide +kernel
theorem dX6_isLayer_9 : decode cX6_isLayer 9 = .ok (.if_icmp .ge 7, 3) := by decide +kernel
theorem dX6_isLayer_12 : decode cX6_isLayer 12 = .ok (.iconst 1, 1) := by decide +kernel
theorem dX6_isLayer_13 : decode cX6_isLayer 13 = .ok (.goto 4, 3) := by decide +kernel
theorem dX6_isLayer_16 : decode cX6_isLayer 16 = .ok (.iconst 0, 1) := by decide +kernel
theorem dX6_isLayer_17 : decode cX6_isLayer 17 = .ok (.ireturn, 1) := by decide +kernel
set_option maxRecDepth 20000 in
theorem ggX6_isDigit_X6_within : GoodIn wsX6_isDigit wsX6_within := goodIn_r _ [4] (by decide +kernel) (by decide +kernel)
set_option maxRecDepth 20000 in
theorem gX6_isDigit_X6_within : GoodIn wsX6_isDigit (va_wsS RX6 52 yX6_within wsX6_within) := goodIn_app (goodIn_of _ (by decide +kernel)) ggX6_isDigit_X6_within
theorem dX6_isDigit_0 : decode cX6_isDigit 0 = .ok (.iload_n 0, 1) := by decide +kernel
theorem dX6_isDigit_1 : decode cX6_isDigit 1 = .ok (.iconst 0, 1) := by decide +kernel
theorem dX6_isDigit_2 : decode cX6_isDigit 2 = .ok (.bipush 9, 2) := by decide +kernel
theorem dX6_isDigit_4 : decode cX6_isDigit 4 = .ok (.invokestatic 52, 3) := by decide +kernel
theorem dX6_isDigit_7 : decode cX6_isDigit 7 = .ok (.ireturn, 1) := by decide +kernel
theorem dX6_isOf_0 : decode cX6_isOf 0 = .ok (.iload_n 0, 1) := by decide +kernel
theorem dX6_isOf_1 : decode cX6_isOf 1 = .ok (.iload_n 1, 1) := by decide +kernel
theorem dX6_isOf_2 : decode cX6_isOf 2 = .ok (.ishr, 1) := by decide +kernel
theorem dX6_isOf_3 : decode cX6_isOf 3 = .ok (.iconst 1, 1) := by decide +kernel
theorem dX6_isOf_4 : decode cX6_isOf 4 = .ok (.iand, 1) := by decide +kernel
theorem dX6_isOf_5 : decode cX6_isOf 5 = .ok (.iconst 1, 1) := by decide +kernel
theorem dX6_isOf_6 : decode cX6_isOf 6 = .ok (.if_icmp .ne 7, 3) := by decide +kernel
theorem dX6_isOf_9 : decode cX6_isOf 9 = .ok (.iconst 1, 1) := by decide +kernel
theorem dX6_isOf_10 : decode cX6_isOf 10 = .ok (.goto 4, 3) := by decide +kernel
theorem dX6_isOf_13 : decode cX6_isOf 13 = .ok (.iconst 0, 1) := by decide +kernel
theorem dX6_isOf_14 : decode cX6_isOf 14 = .ok (.ireturn, 1) := by decide +kernel
theorem dX6_size_0 : decode cX6_size 0 = .ok (.iconst 0, 1) := by decide +kernel
theorem dX6_size_1 : decode cX6_size 1 = .ok (.istore_n 1, 1) := by decide +kernel
theorem dX6_size_2 : decode cX6_size 2 = .ok (.iload_n 0, 1) := by decide +kernel
theorem dX6_size_3 : decode cX6_size 3 = .ok (.istore_n 2, 1) := by decide +kernel
theorem dX6_size_4 : decode cX6_size 4 = .ok (.iload_n 2, 1) := by decide +kernel
theorem dX6_size_5 : decode cX6_size 5 = .ok (.ifCond .le 16, 3) := by decide +kernel
theorem dX6_size_8 : decode cX6_size 8 = .ok (.iload_n 1, 1) := by decide +kernel
theorem dX6_size_9 : decode cX6_size 9 = .ok (.iload_n 2, 1) := by decide +kernel
theorem dX6_size_10 : decode cX6_size 10 = .ok (.iconst 1, 1) := by decide +kernel
theorem dX6_size_11 : decode cX6_size 11 = .ok (.iand, 1) := by decide +kernel
theorem dX6_size_12 : decode cX6_size 12 = .ok (.iadd, 1) := by decide +kernel
theorem dX6_size_13 : decode cX6_size 13 = .ok (.istore_n 1, 1) := by decide +kernel
theorem dX6_size_14 : decode cX6_size 14 = .ok (.iload_n 2, 1) := by decide +kernel
theorem dX6_size_15 : decode cX6_size 15 = .ok (.iconst 1, 1) := by decide +kernel
theorem dX6_size_16 : decode cX6_size 16 = .ok (.ishr, 1) := by decide +kernel
theorem dX6_size_17 : decode cX6_size 17 = .ok (.istore_n 2, 1) := by decide +kernel
theorem dX6_size_18 : decode cX6_size 18 = .ok (.goto (-14), 3) := by decide +kernel
theorem dX6_size_21 : decode cX6_size 21 = .ok (.iload_n 1, 1) := by decide +kernel
theorem dX6_size_22 : decode cX6_size 22 = .ok (.ireturn, 1) := by decide +kernel
set_option maxRecDepth 20000 in
theorem ggX6_digit_X6_within : GoodIn wsX6_digit wsX6_within := goodIn_r _ [6] (by decide +kernel) (by decide +kernel)
set_option maxRecDepth 20000 in
theorem gX6_digit_X6_within : GoodIn wsX6_digit (va_wsS RX6 52 yX6_within wsX6_within) := goodIn_app (goodIn_of _ (by decide +kernel)) ggX6_digit_X6_within
theorem dX6_digit_0 : decode cX6_digit 0 = .ok (.aload_n 0, 1) := by decide +kernel
theorem dX6_digit_1 : decode cX6_digit 1 = .ok (.getfield 59, 3) := by decide +kernel
theorem dX6_digit_4 : decode cX6_digit 4 = .ok (.iload_n 1, 1) := by decide +kernel
theorem dX6_digit_5 : decode cX6_digit 5 = .ok (.if_icmp .ge 22, 3) := by decide +kernel
theorem dX6_digit_8 : decode cX6_digit 8 = .ok (.aload_n 0, 1) := by decide +kernel
theorem dX6_digit_9 : decode cX6_digit 9 = .ok (.getfield 16, 3) := by decide +kernel
theorem dX6_digit_12 : decode cX6_digit 12 = .ok (.aload_n 0, 1) := by decide +kernel
theorem dX6_digit_13 : decode cX6_digit 13 = .ok (.getfield 59, 3) := by decide +kernel
theorem dX6_digit_16 : decode cX6_digit 16 = .ok (.iaload, 1) := by decide +kernel
theorem dX6_digit_17 : decode cX6_digit 17 = .ok (.bipush 48, 2) := by decide +kernel
theorem dX6_digit_19 : decode cX6_digit 19 = .ok (.bipush 57, 2) := by decide +kernel
theorem dX6_digit_21 : decode cX6_digit 21 = .ok (.invokestatic 52, 3) := by decide +kernel
theorem dX6_digit_24 : decode cX6_digit 24 = .ok (.ifCond .ne 6, 3) := by decide +kernel
theorem dX6_digit_27 : decode cX6_digit 27 = .ok (.bipush (-9), 2) := by decide +kernel
theorem dX6_digit_29 : decode cX6_digit 29 = .ok (.ireturn, 1) := by decide +kernel
theorem dX6_digit_30 : decode cX6_digit 30 = .ok (.aload_n 0, 1) := by decide +kernel
theorem dX6_digit_31 : decode cX6_digit 31 = .ok (.dup, 1) := by decide +kernel
theorem dX6_digit_32 : decode cX6_digit 32 = .ok (.getfield 59, 3) := by decide +kernel
theorem dX6_digit_35 : decode cX6_digit 35 = .ok (.iconst 1, 1) := by decide +kernel
theorem dX6_digit_36 : decode cX6_digit 36 = .ok (.iadd, 1) := by decide +kernel
theorem dX6_digit_37 : decode cX6_digit 37 = .ok (.putfield 59, 3) := by decide +kernel
theorem dX6_digit_40 : decode cX6_digit 40 = .ok (.aload_n 0, 1) := by decide +kernel
theorem dX6_digit_41 : decode cX6_digit 41 = .ok (.getfield 16, 3) := by decide +kernel
theorem dX6_digit_44 : decode cX6_digit 44 = .ok (.aload_n 0, 1) := by decide +kernel
theorem dX6_digit_45 : decode cX6_digit 45 = .ok (.getfield 59, 3) := by decide +kernel
theorem dX6_digit_48 : decode cX6_digit 48 = .ok (.iconst 1, 1) := by decide +kernel
theorem dX6_digit_49 : decode cX6_digit 49 = .ok (.isub, 1) := by decide +kernel
theorem dX6_digit_50 : decode cX6_digit 50 = .ok (.iaload, 1) := by decide +kernel
theorem dX6_digit_51 : decode cX6_digit 51 = .ok (.bipush 48, 2) := by decide +kernel
theorem dX6_digit_53 : decode cX6_digit 53 = .ok (.isub, 1) := by decide +kernel
theorem dX6_digit_54 : decode cX6_digit 54 = .ok (.ireturn, 1) := by decide +kernel
theorem dX6_isSign_0 : decode cX6_isSign 0 = .ok (.aload_n 0, 1) := by decide +kernel
theorem dX6_isSign_1 : decode cX6_isSign 1 = .ok (.getfield 59, 3) := by decide +kernel
theorem dX6_isSign_4 : decode cX6_isSign 4 = .ok (.iload_n 1, 1) := by decide +kernel
theorem dX6_isSign_5 : decode cX6_isSign 5 = .ok (.if_icmp .ge 16, 3) := by decide +kernel
theorem dX6_isSign_8 : decode cX6_isSign 8 = .ok (.aload_n 0, 1) := by decide +kernel
theorem dX6_isSign_9 : decode cX6_isSign 9 = .ok (.getfield 16, 3) := by decide +kernel
theorem dX6_isSign_12 : decode cX6_isSign 12 = .ok (.aload_n 0, 1) := by decide +kernel
theorem dX6_isSign_13 : decode cX6_isSign 13 = .ok (.getfield 59, 3) := by decide +kernel
theorem dX6_isSign_16 : decode cX6_isSign 16 = .ok (.iaload, 1) := by decide +kernel
theorem dX6_isSign_17 : decode cX6_isSign 17 = .ok (.iload_n 2, 1) := by decide +kernel
theorem dX6_isSign_18 : decode cX6_isSign 18 = .ok (.if_icmp .eq 5, 3) := by decide +kernel
theorem dX6_isSign_21 : decode cX6_isSign 21 = .ok (.iconst 0, 1) := by decide +kernel
theorem dX6_isSign_22 : decode cX6_isSign 22 = .ok (.ireturn, 1) := by decide +kernel
theorem dX6_isSign_23 : decode cX6_isSign 23 = .ok (.aload_n 0, 1) := by decide +kernel
theorem dX6_isSign_24 : decode cX6_isSign 24 = .ok (.dup, 1) := by decide +kernel
theorem dX6_isSign_25 : decode cX6_isSign 25 = .ok (.getfield 59, 3) := by decide +kernel
theorem dX6_isSign_28 : decode cX6_isSign 28 = .ok (.iconst 1, 1) := by decide +kernel
theorem dX6_isSign_29 : decode cX6_isSign 29 = .ok (.iadd, 1) := by decide +kernel
theorem dX6_isSign_30 : decode cX6_isSign 30 = .ok (.putfield 59, 3) := by decide +kernel
theorem dX6_isSign_33 : decode cX6_isSign 33 = .ok (.iconst 1, 1) := by decide +kernel
theorem dX6_isSign_34 : decode cX6_isSign 34 = .ok (.ireturn, 1) := by decide +kernel
set_option maxRecDepth 20000 in
theorem ggX6_wall_X6_isSheet : GoodIn wsX6_wall wsX6_isSheet := goodIn_r _ [7, 8, 9, 6, 10] (by decide +kernel) (by decide +kernel)
set_option maxRecDepth 20000 in
theorem gX6_wall_X6_isSheet : GoodIn wsX6_wall (va_wsS RX6 62 yX6_isSheet wsX6_isSheet) := goodIn_app (goodIn_of _ (by decide +kernel)) ggX6_wall_X6_isSheet
set_option maxRecDepth 20000 in
theorem ggX6_wall_X6_isSort : GoodIn wsX6_wall wsX6_isSort := goodIn_r _ [13, 8, 9, 6, 10] (by decide +kernel) (by decide +kernel)
set_option maxRecDepth 20000 in
theorem gX6_wall_X6_isSort : GoodIn wsX6_wall (va_wsS RX6 66 yX6_isSort wsX6_isSort) := goodIn_app (goodIn_of _ (by decide +kernel)) ggX6_wall_X6_isSort
set_option maxRecDepth 20000 in
theorem ggX6_wall_X6_against : GoodIn wsX6_wall wsX6_against := goodIn_r _ [17, 18, 19, 55, 56, 57, 58, 59, 60, 61, 62, 63, 64, 65, 66, 67, 68, 69, 70, 71, 72, 73, 74, 75, 76, 77, 78, 79, 80] (by decide +kernel) (by decide +kernel)
set_option maxRecDepth 20000 in
theorem gX6_wall_X6_against : GoodIn wsX6_wall (wsV RX6 69 RX6 yX6_against wsX6_against) := goodIn_app (goodIn_of _ (by decide +kernel)) ggX6_wall_X6_against
set_option maxRecDepth 20000 in
theorem ggX6_wall_X6_fails : GoodIn wsX6_wall wsX6_fails := goodIn_r _ [23, 1, 55, 56, 57, 58, 59, 60, 61, 62, 63, 64, 65, 66, 67, 68, 69, 70, 71, 72, 73, 74, 75, 76, 77, 78, 79, 80] (by decide +kernel) (by decide +kernel)
set_option maxRecDepth 20000 in
theorem gX6_wall_X6_fails : GoodIn wsX6_wall (wsV RX6 73 RX6 yX6_fails wsX6_fails) := goodIn_app (goodIn_of _ (by decide +kernel)) ggX6_wall_X6_fails
set_option maxRecDepth 20000 in
theorem ggX6_wall_X6_readWall : GoodIn wsX6_wall wsX6_readWall := goodIn_r _ [27, 28, 29, 30, 2, 31, 32, 33, 6, 34, 35, 36, 37, 38, 39, 8, 9, 10, 40, 41, 42, 43, 44, 55, 56, 57, 58, 59, 60, 61, 62, 63, 64, 65, 66, 67, 68, 69, 70, 71, 72, 73, 74, 75, 76, 77, 78, 79, 80] (by decide +kernel) (by decide +kernel)
set_option maxRecDepth 20000 in
theorem gX6_wall_X6_readWall : GoodIn wsX6_wall (wsV RX6 77 RX6 yX6_readWall wsX6_readWall) := goodIn_app (goodIn_of _ (by decide +kernel)) ggX6_wall_X6_readWall
set_option maxRecDepth 20000 in
theorem ggX6_wall_X6_takeWall : GoodIn wsX6_wall wsX6_takeWall := goodIn_r _ [48, 29, 49, 30, 50, 28, 3, 51, 44, 52, 53, 54, 55, 56, 57, 58, 59, 60, 61, 62, 63, 64, 65, 66, 67, 68, 69, 70, 71, 72, 73, 74, 75, 76, 77, 78, 79, 80] (by decide +kernel) (by decide +kernel)
set_option maxRecDepth 20000 in
theorem gX6_wall_X6_takeWall : GoodIn wsX6_wall (wsV RX6 80 RX6 yX6_takeWall wsX6_takeWall) := goodIn_app (goodIn_of _ (by decide +kernel)) ggX6_wall_X6_takeWall
theorem dX6_wall_0 : decode cX6_wall 0 = .ok (.aload_n 0, 1) := by decide +kernel
theorem dX6_wall_1 : decode cX6_wall 1 = .ok (.iconst 0, 1) := by decide +kernel
theorem dX6_wall_2 : decode cX6_wall 2 = .ok (.putfield 46, 3) := by decide +kernel
theorem dX6_wall_5 : decode cX6_wall 5 = .ok (.iload_n 1, 1) := by decide +kernel
theorem dX6_wall_6 : decode cX6_wall 6 = .ok (.invokestatic 62, 3) := by decide +kernel
theorem dX6_wall_9 : decode cX6_wall 9 = .ok (.ifCond .ne 5, 3) := by decide +kernel
theorem dX6_wall_12 : decode cX6_wall 12 = .ok (.iconst (-1), 1) := by decide +kernel
theorem dX6_wall_13 : decode cX6_wall 13 = .ok (.ireturn, 1) := by decide +kernel
theorem dX6_wall_14 : decode cX6_wall 14 = .ok (.iload_n 2, 1) := by decide +kernel
theorem dX6_wall_15 : decode cX6_wall 15 = .ok (.invokestatic 66, 3) := by decide +kernel
theorem dX6_wall_18 : decode cX6_wall 18 = .ok (.ifCond .ne 6, 3) := by decide +kernel
theorem dX6_wall_21 : decode cX6_wall 21 = .ok (.bipush (-2), 2) := by decide +kernel
theorem dX6_wall_23 : decode cX6_wall 23 = .ok (.ireturn, 1) := by decide +kernel
theorem dX6_wall_24 : decode cX6_wall 24 = .ok (.aload_n 0, 1) := by decide +kernel
theorem dX6_wall_25 : decode cX6_wall 25 = .ok (.iload_n 1, 1) := by decide +kernel
theorem dX6_wall_26 : decode cX6_wall 26 = .ok (.iload_n 2, 1) := by decide +kernel
theorem dX6_wall_27 : decode cX6_wall 27 = .ok (.iload_n 3, 1) := by decide +kernel
theorem dX6_wall_28 : decode cX6_wall 28 = .ok (.iload 4, 2) := by decide +kernel
theorem dX6_wall_30 : decode cX6_wall 30 = .ok (.invokevirtual 69, 3) := by decide +kernel
theorem dX6_wall_33 : decode cX6_wall 33 = .ok (.istore 5, 2) := by decide +kernel
theorem dX6_wall_35 : decode cX6_wall 35 = .ok (.iload 5, 2) := by decide +kernel
theorem dX6_wall_37 : decode cX6_wall 37 = .ok (.ifCond .eq 10, 3) := by decide +kernel
theorem dX6_wall_40 : decode cX6_wall 40 = .ok (.aload_n 0, 1) := by decide +kernel
theorem dX6_wall_41 : decode cX6_wall 41 = .ok (.iload 5, 2) := by decide +kernel
theorem dX6_wall_43 : decode cX6_wall 43 = .ok (.invokevirtual 73, 3) := by decide +kernel
theorem dX6_wall_46 : decode cX6_wall 46 = .ok (.ireturn, 1) := by decide +kernel
theorem dX6_wall_47 : decode cX6_wall 47 = .ok (.bipush 60, 2) := by decide +kernel
theorem dX6_wall_49 : decode cX6_wall 49 = .ok (.iload_n 1, 1) := by decide +kernel
theorem dX6_wall_50 : decode cX6_wall 50 = .ok (.imul, 1) := by decide +kernel
theorem dX6_wall_51 : decode cX6_wall 51 = .ok (.iload_n 3, 1) := by decide +kernel
theorem dX6_wall_52 : decode cX6_wall 52 = .ok (.iadd, 1) := by decide +kernel
theorem dX6_wall_53 : decode cX6_wall 53 = .ok (.istore 6, 2) := by decide +kernel
theorem dX6_wall_55 : decode cX6_wall 55 = .ok (.aload_n 0, 1) := by decide +kernel
theorem dX6_wall_56 : decode cX6_wall 56 = .ok (.iload 6, 2) := by decide +kernel
theorem dX6_wall_58 : decode cX6_wall 58 = .ok (.putfield 59, 3) := by decide +kernel
theorem dX6_wall_61 : decode cX6_wall 61 = .ok (.aload_n 0, 1) := by decide +kernel
theorem dX6_wall_62 : decode cX6_wall 62 = .ok (.iload 6, 2) := by decide +kernel
theorem dX6_wall_64 : decode cX6_wall 64 = .ok (.iload 4, 2) := by decide +kernel
theorem dX6_wall_66 : decode cX6_wall 66 = .ok (.iadd, 1) := by decide +kernel
theorem dX6_wall_67 : decode cX6_wall 67 = .ok (.invokevirtual 77, 3) := by decide +kernel
theorem dX6_wall_70 : decode cX6_wall 70 = .ok (.ifCond .ne 14, 3) := by decide +kernel
theorem dX6_wall_73 : decode cX6_wall 73 = .ok (.bipush (-100), 2) := by decide +kernel
theorem dX6_wall_75 : decode cX6_wall 75 = .ok (.aload_n 0, 1) := by decide +kernel
theorem dX6_wall_76 : decode cX6_wall 76 = .ok (.getfield 59, 3) := by decide +kernel
theorem dX6_wall_79 : decode cX6_wall 79 = .ok (.iload 6, 2) := by decide +kernel
theorem dX6_wall_81 : decode cX6_wall 81 = .ok (.isub, 1) := by decide +kernel
theorem dX6_wall_82 : decode cX6_wall 82 = .ok (.isub, 1) := by decide +kernel
theorem dX6_wall_83 : decode cX6_wall 83 = .ok (.ireturn, 1) := by decide +kernel
theorem dX6_wall_84 : decode cX6_wall 84 = .ok (.aload_n 0, 1) := by decide +kernel
theorem dX6_wall_85 : decode cX6_wall 85 = .ok (.invokevirtual 80, 3) := by decide +kernel
theorem dX6_wall_88 : decode cX6_wall 88 = .ok (.aload_n 0, 1) := by decide +kernel
theorem dX6_wall_89 : decode cX6_wall 89 = .ok (.getfield 56, 3) := by decide +kernel
theorem dX6_wall_92 : decode cX6_wall 92 = .ok (.ireturn, 1) := by decide +kernel
theorem dX6_takeWall_0 : decode cX6_takeWall 0 = .ok (.aload_n 0, 1) := by decide +kernel
theorem dX6_takeWall_1 : decode cX6_takeWall 1 = .ok (.aload_n 0, 1) := by decide +kernel
theorem dX6_takeWall_2 : decode cX6_takeWall 2 = .ok (.getfield 83, 3) := by decide +kernel
theorem dX6_takeWall_5 : decode cX6_takeWall 5 = .ok (.putfield 86, 3) := by decide +kernel
theorem dX6_takeWall_8 : decode cX6_takeWall 8 = .ok (.aload_n 0, 1) := by decide +kernel
theorem dX6_takeWall_9 : decode cX6_takeWall 9 = .ok (.aload_n 0, 1) := by decide +kernel
theorem dX6_takeWall_10 : decode cX6_takeWall 10 = .ok (.getfield 89, 3) := by decide +kernel
theorem dX6_takeWall_13 : decode cX6_takeWall 13 = .ok (.putfield 92, 3) := by decide +kernel
theorem dX6_takeWall_16 : decode cX6_takeWall 16 = .ok (.aload_n 0, 1) := by decide +kernel
theorem dX6_takeWall_17 : decode cX6_takeWall 17 = .ok (.aload_n 0, 1) := by decide +kernel
theorem dX6_takeWall_18 : decode cX6_takeWall 18 = .ok (.getfield 95, 3) := by decide +kernel
theorem dX6_takeWall_21 : decode cX6_takeWall 21 = .ok (.putfield 56, 3) := by decide +kernel
theorem dX6_takeWall_24 : decode cX6_takeWall 24 = .ok (.iconst 0, 1) := by decide +kernel
theorem dX6_takeWall_25 : decode cX6_takeWall 25 = .ok (.istore_n 1, 1) := by decide +kernel
theorem dX6_takeWall_26 : decode cX6_takeWall 26 = .ok (.iload_n 1, 1) := by decide +kernel
theorem dX6_takeWall_27 : decode cX6_takeWall 27 = .ok (.aload_n 0, 1) := by decide +kernel
theorem dX6_takeWall_28 : decode cX6_takeWall 28 = .ok (.getfield 56, 3) := by decide +kernel
theorem dX6_takeWall_31 : decode cX6_takeWall 31 = .ok (.if_icmp .ge 55, 3) := by decide +kernel
theorem dX6_takeWall_34 : decode cX6_takeWall 34 = .ok (.aload_n 0, 1) := by decide +kernel
theorem dX6_takeWall_35 : decode cX6_takeWall 35 = .ok (.getfield 19, 3) := by decide +kernel
theorem dX6_takeWall_38 : decode cX6_takeWall 38 = .ok (.iload_n 1, 1) := by decide +kernel
theorem dX6_takeWall_39 : decode cX6_takeWall 39 = .ok (.aload_n 0, 1) := by decide +kernel
theorem dX6_takeWall_40 : decode cX6_takeWall 40 = .ok (.getfield 28, 3) := by decide +kernel
theorem dX6_takeWall_43 : decode cX6_takeWall 43 = .ok (.iconst 3, 1) := by decide +kernel
theorem dX6_takeWall_44 : decode cX6_takeWall 44 = .ok (.iload_n 1, 1) := by decide +kernel
theorem dX6_takeWall_45 : decode cX6_takeWall 45 = .ok (.imul, 1) := by decide +kernel
theorem dX6_takeWall_46 : decode cX6_takeWall 46 = .ok (.iaload, 1) := by decide +kernel
theorem dX6_takeWall_47 : decode cX6_takeWall 47 = .ok (.iastore, 1) := by decide +kernel
theorem dX6_takeWall_48 : decode cX6_takeWall 48 = .ok (.aload_n 0, 1) := by decide +kernel
theorem dX6_takeWall_49 : decode cX6_takeWall 49 = .ok (.getfield 22, 3) := by decide +kernel
theorem dX6_takeWall_52 : decode cX6_takeWall 52 = .ok (.iload_n 1, 1) := by decide +kernel
theorem dX6_takeWall_53 : decode cX6_takeWall 53 = .ok (.aload_n 0, 1) := by decide +kernel
theorem dX6_takeWall_54 : decode cX6_takeWall 54 = .ok (.getfield 28, 3) := by decide +kernel
theorem dX6_takeWall_57 : decode cX6_takeWall 57 = .ok (.iconst 3, 1) := by decide +kernel
theorem dX6_takeWall_58 : decode cX6_takeWall 58 = .ok (.iload_n 1, 1) := by decide +kernel
theorem dX6_takeWall_59 : decode cX6_takeWall 59 = .ok (.imul, 1) := by decide +kernel
theorem dX6_takeWall_60 : decode cX6_takeWall 60 = .ok (.iconst 1, 1) := by decide +kernel
theorem dX6_takeWall_61 : decode cX6_takeWall 61 = .ok (.iadd, 1) := by decide +kernel
theorem dX6_takeWall_62 : decode cX6_takeWall 62 = .ok (.iaload, 1) := by decide +kernel
theorem dX6_takeWall_63 : decode cX6_takeWall 63 = .ok (.iastore, 1) := by decide +kernel
theorem dX6_takeWall_64 : decode cX6_takeWall 64 = .ok (.aload_n 0, 1) := by decide +kernel
theorem dX6_takeWall_65 : decode cX6_takeWall 65 = .ok (.getfield 25, 3) := by decide +kernel
theorem dX6_takeWall_68 : decode cX6_takeWall 68 = .ok (.iload_n 1, 1) := by decide +kernel
theorem dX6_takeWall_69 : decode cX6_takeWall 69 = .ok (.aload_n 0, 1) := by decide +kernel
theorem dX6_takeWall_70 : decode cX6_takeWall 70 = .ok (.getfield 28, 3) := by decide +kernel
theorem dX6_takeWall_73 : decode cX6_takeWall 73 = .ok (.iconst 3, 1) := by decide +kernel
theorem dX6_takeWall_74 : decode cX6_takeWall 74 = .ok (.iload_n 1, 1) := by decide +kernel
theorem dX6_takeWall_75 : decode cX6_takeWall 75 = .ok (.imul, 1) := by decide +kernel
theorem dX6_takeWall_76 : decode cX6_takeWall 76 = .ok (.iconst 2, 1) := by decide +kernel
theorem dX6_takeWall_77 : decode cX6_takeWall 77 = .ok (.iadd, 1) := by decide +kernel
theorem dX6_takeWall_78 : decode cX6_takeWall 78 = .ok (.iaload, 1) := by decide +kernel
theorem dX6_takeWall_79 : decode cX6_takeWall 79 = .ok (.iastore, 1) := by decide +kernel
theorem dX6_takeWall_80 : decode cX6_takeWall 80 = .ok (.iinc 1 1, 3) := by decide +kernel
theorem dX6_takeWall_83 : decode cX6_takeWall 83 = .ok (.goto (-57), 3) := by decide +kernel
theorem dX6_takeWall_86 : decode cX6_takeWall 86 = .ok (.aload_n 0, 1) := by decide +kernel
theorem dX6_takeWall_87 : decode cX6_takeWall 87 = .ok (.iconst 0, 1) := by decide +kernel
theorem dX6_takeWall_88 : decode cX6_takeWall 88 = .ok (.putfield 98, 3) := by decide +kernel
theorem dX6_takeWall_91 : decode cX6_takeWall 91 = .ok (.return_, 1) := by decide +kernel
set_option maxRecDepth 20000 in
theorem ggX6_readWall_X6_isSign : GoodIn wsX6_readWall wsX6_isSign := goodIn_r _ [9, 4, 10, 23, 24, 25, 26, 27, 28, 29, 30, 31, 32, 33, 34, 35, 36, 37, 38, 39, 40, 41, 42, 43, 44, 45, 46, 47, 48] (by decide +kernel) (by decide +kernel)
set_option maxRecDepth 20000 in
theorem gX6_readWall_X6_isSign : GoodIn wsX6_readWall (wsV RX6 101 RX6 yX6_isSign wsX6_isSign) := goodIn_app (goodIn_of _ (by decide +kernel)) ggX6_readWall_X6_isSign
set_option maxRecDepth 20000 in
theorem ggX6_readWall_X6_digit : GoodIn wsX6_readWall wsX6_digit := goodIn_r _ [14, 4, 10, 15, 16, 8, 17, 23, 24, 25, 26, 27, 28, 29, 30, 31, 32, 33, 34, 35, 36, 37, 38, 39, 40, 41, 42, 43, 44, 45, 46, 47, 48] (by decide +kernel) (by decide +kernel)
set_option maxRecDepth 20000 in
theorem gX6_readWall_X6_digit : GoodIn wsX6_readWall (wsV RX6 105 RX6 yX6_digit wsX6_digit) := goodIn_app (goodIn_of _ (by decide +kernel)) ggX6_readWall_X6_digit
set_option maxRecDepth 20000 in
theorem ggX6_readWall_X6_readLayer : GoodIn wsX6_readWall wsX6_readLayer := goodIn_r _ [21, 4, 10, 1, 22, 11, 12, 13, 8, 14, 15, 16, 17, 23, 24, 25, 26, 27, 28, 29, 30, 31, 32, 33, 34, 35, 36, 37, 38, 39, 40, 41, 42, 43, 44, 45, 46, 47, 48] (by decide +kernel) (by decide +kernel)
set_option maxRecDepth 20000 in
theorem gX6_readWall_X6_readLayer : GoodIn wsX6_readWall (wsV RX6 108 RX6 yX6_readLayer wsX6_readLayer) := goodIn_app (goodIn_of _ (by decide +kernel)) ggX6_readWall_X6_readLayer
theorem dX6_readWall_0 : decode cX6_readWall 0 = .ok (.aload_n 0, 1) := by decide +kernel
theorem dX6_readWall_1 : decode cX6_readWall 1 = .ok (.iconst 0, 1) := by decide +kernel
theorem dX6_readWall_2 : decode cX6_readWall 2 = .ok (.putfield 95, 3) := by decide +kernel
theorem dX6_readWall_5 : decode cX6_readWall 5 = .ok (.aload_n 0, 1) := by decide +kernel
theorem dX6_readWall_6 : decode cX6_readWall 6 = .ok (.iload_n 1, 1) := by decide +kernel
theorem dX6_readWall_7 : decode cX6_readWall 7 = .ok (.bipush 119, 2) := by decide +kernel
theorem dX6_readWall_9 : decode cX6_readWall 9 = .ok (.invokevirtual 101, 3) := by decide +kernel
theorem dX6_readWall_12 : decode cX6_readWall 12 = .ok (.ifCond .ne 5, 3) := by decide +kernel
theorem dX6_readWall_15 : decode cX6_readWall 15 = .ok (.iconst 0, 1) := by decide +kernel
theorem dX6_readWall_16 : decode cX6_readWall 16 = .ok (.ireturn, 1) := by decide +kernel
theorem dX6_readWall_17 : decode cX6_readWall 17 = .ok (.aload_n 0, 1) := by decide +kernel
theorem dX6_readWall_18 : decode cX6_readWall 18 = .ok (.aload_n 0, 1) := by decide +kernel
theorem dX6_readWall_19 : decode cX6_readWall 19 = .ok (.iload_n 1, 1) := by decide +kernel
theorem dX6_readWall_20 : decode cX6_readWall 20 = .ok (.invokevirtual 105, 3) := by decide +kernel
theorem dX6_readWall_23 : decode cX6_readWall 23 = .ok (.putfield 83, 3) := by decide +kernel
theorem dX6_readWall_26 : decode cX6_readWall 26 = .ok (.aload_n 0, 1) := by decide +kernel
theorem dX6_readWall_27 : decode cX6_readWall 27 = .ok (.getfield 83, 3) := by decide +kernel
theorem dX6_readWall_30 : decode cX6_readWall 30 = .ok (.bipush (-9), 2) := by decide +kernel
theorem dX6_readWall_32 : decode cX6_readWall 32 = .ok (.if_icmp .ne 5, 3) := by decide +kernel
theorem dX6_readWall_35 : decode cX6_readWall 35 = .ok (.iconst 0, 1) := by decide +kernel
theorem dX6_readWall_36 : decode cX6_readWall 36 = .ok (.ireturn, 1) := by decide +kernel
theorem dX6_readWall_37 : decode cX6_readWall 37 = .ok (.aload_n 0, 1) := by decide +kernel
theorem dX6_readWall_38 : decode cX6_readWall 38 = .ok (.aload_n 0, 1) := by decide +kernel
theorem dX6_readWall_39 : decode cX6_readWall 39 = .ok (.iload_n 1, 1) := by decide +kernel
theorem dX6_readWall_40 : decode cX6_readWall 40 = .ok (.invokevirtual 105, 3) := by decide +kernel
theorem dX6_readWall_43 : decode cX6_readWall 43 = .ok (.putfield 89, 3) := by decide +kernel
theorem dX6_readWall_46 : decode cX6_readWall 46 = .ok (.aload_n 0, 1) := by decide +kernel
theorem dX6_readWall_47 : decode cX6_readWall 47 = .ok (.getfield 89, 3) := by decide +kernel
theorem dX6_readWall_50 : decode cX6_readWall 50 = .ok (.bipush (-9), 2) := by decide +kernel
theorem dX6_readWall_52 : decode cX6_readWall 52 = .ok (.if_icmp .ne 5, 3) := by decide +kernel
theorem dX6_readWall_55 : decode cX6_readWall 55 = .ok (.iconst 0, 1) := by decide +kernel
theorem dX6_readWall_56 : decode cX6_readWall 56 = .ok (.ireturn, 1) := by decide +kernel
theorem dX6_readWall_57 : decode cX6_readWall 57 = .ok (.aload_n 0, 1) := by decide +kernel
theorem dX6_readWall_58 : decode cX6_readWall 58 = .ok (.getfield 95, 3) := by decide +kernel
theorem dX6_readWall_61 : decode cX6_readWall 61 = .ok (.iconst 2, 1) := by decide +kernel
theorem dX6_readWall_62 : decode cX6_readWall 62 = .ok (.if_icmp .lt 20, 3) := by decide +kernel
theorem dX6_readWall_65 : decode cX6_readWall 65 = .ok (.aload_n 0, 1) := by decide +kernel
theorem dX6_readWall_66 : decode cX6_readWall 66 = .ok (.getfield 95, 3) := by decide +kernel
theorem dX6_readWall_69 : decode cX6_readWall 69 = .ok (.bipush 6, 2) := by decide +kernel
theorem dX6_readWall_71 : decode cX6_readWall 71 = .ok (.if_icmp .ge 31, 3) := by decide +kernel
theorem dX6_readWall_74 : decode cX6_readWall 74 = .ok (.aload_n 0, 1) := by decide +kernel
theorem dX6_readWall_75 : decode cX6_readWall 75 = .ok (.getfield 59, 3) := by decide +kernel
theorem dX6_readWall_78 : decode cX6_readWall 78 = .ok (.iload_n 1, 1) := by decide +kernel
theorem dX6_readWall_79 : decode cX6_readWall 79 = .ok (.if_icmp .ge 23, 3) := by decide +kernel
theorem dX6_readWall_82 : decode cX6_readWall 82 = .ok (.aload_n 0, 1) := by decide +kernel
theorem dX6_readWall_83 : decode cX6_readWall 83 = .ok (.iload_n 1, 1) := by decide +kernel
theorem dX6_readWall_84 : decode cX6_readWall 84 = .ok (.bipush 59, 2) := by decide +kernel
theorem dX6_readWall_86 : decode cX6_readWall 86 = .ok (.invokevirtual 101, 3) := by decide +kernel
theorem dX6_readWall_89 : decode cX6_readWall 89 = .ok (.ifCond .eq 11, 3) := by decide +kernel
theorem dX6_readWall_92 : decode cX6_readWall 92 = .ok (.aload_n 0, 1) := by decide +kernel
theorem dX6_readWall_93 : decode cX6_readWall 93 = .ok (.iload_n 1, 1) := by decide +kernel
theorem dX6_readWall_94 : decode cX6_readWall 94 = .ok (.invokevirtual 108, 3) := by decide +kernel
theorem dX6_readWall_97 : decode cX6_readWall 97 = .ok (.ifCond .ne (-40), 3) := by decide +kernel
theorem dX6_readWall_100 : decode cX6_readWall 100 = .ok (.iconst 0, 1) := by decide +kernel
theorem dX6_readWall_101 : decode cX6_readWall 101 = .ok (.ireturn, 1) := by decide +kernel
theorem dX6_readWall_102 : decode cX6_readWall 102 = .ok (.aload_n 0, 1) := by decide +kernel
theorem dX6_readWall_103 : decode cX6_readWall 103 = .ok (.getfield 59, 3) := by decide +kernel
theorem dX6_readWall_106 : decode cX6_readWall 106 = .ok (.iload_n 1, 1) := by decide +kernel
theorem dX6_readWall_107 : decode cX6_readWall 107 = .ok (.if_icmp .ne 7, 3) := by decide +kernel
theorem dX6_readWall_110 : decode cX6_readWall 110 = .ok (.iconst 1, 1) := by decide +kernel
theorem dX6_readWall_111 : decode cX6_readWall 111 = .ok (.goto 4, 3) := by decide +kernel
theorem dX6_readWall_114 : decode cX6_readWall 114 = .ok (.iconst 0, 1) := by decide +kernel
theorem dX6_readWall_115 : decode cX6_readWall 115 = .ok (.ireturn, 1) := by decide +kernel
set_option maxRecDepth 20000 in
theorem ggX6_readLayer_X6_digit : GoodIn wsX6_readLayer wsX6_digit := goodIn_r _ [9, 1, 2, 10, 11, 8, 12, 13, 14, 15, 16, 17, 18, 19, 20, 21, 22, 23, 24, 25, 26, 27, 28, 29, 30, 31, 32, 33, 34, 35, 36, 37, 38] (by decide +kernel) (by decide +kernel)
set_option maxRecDepth 20000 in
theorem gX6_readLayer_X6_digit : GoodIn wsX6_readLayer (wsV RX6 105 RX6 yX6_digit wsX6_digit) := goodIn_app (goodIn_of _ (by decide +kernel)) ggX6_readLayer_X6_digit
theorem dX6_readLayer_0 : decode cX6_readLayer 0 = .ok (.aload_n 0, 1) := by decide +kernel
theorem dX6_readLayer_1 : decode cX6_readLayer 1 = .ok (.getfield 59, 3) := by decide +kernel
theorem dX6_readLayer_4 : decode cX6_readLayer 4 = .ok (.iload_n 1, 1) := by decide +kernel
theorem dX6_readLayer_5 : decode cX6_readLayer 5 = .ok (.if_icmp .ge 15, 3) := by decide +kernel
theorem dX6_readLayer_8 : decode cX6_readLayer 8 = .ok (.aload_n 0, 1) := by decide +kernel
theorem dX6_readLayer_9 : decode cX6_readLayer 9 = .ok (.getfield 16, 3) := by decide +kernel
theorem dX6_readLayer_12 : decode cX6_readLayer 12 = .ok (.aload_n 0, 1) := by decide +kernel
theorem dX6_readLayer_13 : decode cX6_readLayer 13 = .ok (.getfield 59, 3) := by decide +kernel
theorem dX6_readLayer_16 : decode cX6_readLayer 16 = .ok (.iaload, 1) := by decide +kernel
theorem dX6_readLayer_17 : decode cX6_readLayer 17 = .ok (.goto 4, 3) := by decide +kernel
theorem dX6_readLayer_20 : decode cX6_readLayer 20 = .ok (.iconst 0, 1) := by decide +kernel
theorem dX6_readLayer_21 : decode cX6_readLayer 21 = .ok (.istore_n 2, 1) := by decide +kernel
theorem dX6_readLayer_22 : decode cX6_readLayer 22 = .ok (.iconst 3, 1) := by decide +kernel
theorem dX6_readLayer_23 : decode cX6_readLayer 23 = .ok (.aload_n 0, 1) := by decide +kernel
theorem dX6_readLayer_24 : decode cX6_readLayer 24 = .ok (.getfield 95, 3) := by decide +kernel
theorem dX6_readLayer_27 : decode cX6_readLayer 27 = .ok (.imul, 1) := by decide +kernel
theorem dX6_readLayer_28 : decode cX6_readLayer 28 = .ok (.istore_n 3, 1) := by decide +kernel
theorem dX6_readLayer_29 : decode cX6_readLayer 29 = .ok (.aload_n 0, 1) := by decide +kernel
theorem dX6_readLayer_30 : decode cX6_readLayer 30 = .ok (.getfield 28, 3) := by decide +kernel
theorem dX6_readLayer_33 : decode cX6_readLayer 33 = .ok (.iload_n 3, 1) := by decide +kernel
theorem dX6_readLayer_34 : decode cX6_readLayer 34 = .ok (.iload_n 2, 1) := by decide +kernel
theorem dX6_readLayer_35 : decode cX6_readLayer 35 = .ok (.bipush 115, 2) := by decide +kernel
theorem dX6_readLayer_37 : decode cX6_readLayer 37 = .ok (.if_icmp .ne 7, 3) := by decide +kernel
theorem dX6_readLayer_40 : decode cX6_readLayer 40 = .ok (.iconst 0, 1) := by decide +kernel
theorem dX6_readLayer_41 : decode cX6_readLayer 41 = .ok (.goto 25, 3) := by decide +kernel
theorem dX6_readLayer_44 : decode cX6_readLayer 44 = .ok (.iload_n 2, 1) := by decide +kernel
theorem dX6_readLayer_45 : decode cX6_readLayer 45 = .ok (.bipush 116, 2) := by decide +kernel
theorem dX6_readLayer_47 : decode cX6_readLayer 47 = .ok (.if_icmp .ne 7, 3) := by decide +kernel
theorem dX6_readLayer_50 : decode cX6_readLayer 50 = .ok (.iconst 1, 1) := by decide +kernel
theorem dX6_readLayer_51 : decode cX6_readLayer 51 = .ok (.goto 15, 3) := by decide +kernel
theorem dX6_readLayer_54 : decode cX6_readLayer 54 = .ok (.iload_n 2, 1) := by decide +kernel
theorem dX6_readLayer_55 : decode cX6_readLayer 55 = .ok (.bipush 114, 2) := by decide +kernel
theorem dX6_readLayer_57 : decode cX6_readLayer 57 = .ok (.if_icmp .ne 7, 3) := by decide +kernel
theorem dX6_readLayer_60 : decode cX6_readLayer 60 = .ok (.iconst 2, 1) := by decide +kernel
theorem dX6_readLayer_61 : decode cX6_readLayer 61 = .ok (.goto 5, 3) := by decide +kernel
theorem dX6_readLayer_64 : decode cX6_readLayer 64 = .ok (.bipush (-9), 2) := by decide +kernel
theorem dX6_readLayer_66 : decode cX6_readLayer 66 = .ok (.iastore, 1) := by decide +kernel
theorem dX6_readLayer_67 : decode cX6_readLayer 67 = .ok (.aload_n 0, 1) := by decide +kernel
theorem dX6_readLayer_68 : decode cX6_readLayer 68 = .ok (.getfield 28, 3) := by decide +kernel
theorem dX6_readLayer_71 : decode cX6_readLayer 71 = .ok (.iload_n 3, 1) := by decide +kernel
theorem dX6_readLayer_72 : decode cX6_readLayer 72 = .ok (.iaload, 1) := by decide +kernel
theorem dX6_readLayer_73 : decode cX6_readLayer 73 = .ok (.bipush (-9), 2) := by decide +kernel
theorem dX6_readLayer_75 : decode cX6_readLayer 75 = .ok (.if_icmp .ne 5, 3) := by decide +kernel
theorem dX6_readLayer_78 : decode cX6_readLayer 78 = .ok (.iconst 0, 1) := by decide +kernel
theorem dX6_readLayer_79 : decode cX6_readLayer 79 = .ok (.ireturn, 1) := by decide +kernel
theorem dX6_readLayer_80 : decode cX6_readLayer 80 = .ok (.aload_n 0, 1) := by decide +kernel
theorem dX6_readLayer_81 : decode cX6_readLayer 81 = .ok (.dup, 1) := by decide +kernel
theorem dX6_readLayer_82 : decode cX6_readLayer 82 = .ok (.getfield 59, 3) := by decide +kernel
theorem dX6_readLayer_85 : decode cX6_readLayer 85 = .ok (.iconst 1, 1) := by decide +kernel
theorem dX6_readLayer_86 : decode cX6_readLayer 86 = .ok (.iadd, 1) := by decide +kernel
theorem dX6_readLayer_87 : decode cX6_readLayer 87 = .ok (.putfield 59, 3) := by decide +kernel
theorem dX6_readLayer_90 : decode cX6_readLayer 90 = .ok (.aload_n 0, 1) := by decide +kernel
theorem dX6_readLayer_91 : decode cX6_readLayer 91 = .ok (.getfield 28, 3) := by decide +kernel
theorem dX6_readLayer_94 : decode cX6_readLayer 94 = .ok (.iload_n 3, 1) := by decide +kernel
theorem dX6_readLayer_95 : decode cX6_readLayer 95 = .ok (.iconst 1, 1) := by decide +kernel
theorem dX6_readLayer_96 : decode cX6_readLayer 96 = .ok (.iadd, 1) := by decide +kernel
theorem dX6_readLayer_97 : decode cX6_readLayer 97 = .ok (.aload_n 0, 1) := by decide +kernel
theorem dX6_readLayer_98 : decode cX6_readLayer 98 = .ok (.iload_n 1, 1) := by decide +kernel
theorem dX6_readLayer_99 : decode cX6_readLayer 99 = .ok (.invokevirtual 105, 3) := by decide +kernel
theorem dX6_readLayer_102 : decode cX6_readLayer 102 = .ok (.iastore, 1) := by decide +kernel
theorem dX6_readLayer_103 : decode cX6_readLayer 103 = .ok (.aload_n 0, 1) := by decide +kernel
theorem dX6_readLayer_104 : decode cX6_readLayer 104 = .ok (.getfield 28, 3) := by decide +kernel
theorem dX6_readLayer_107 : decode cX6_readLayer 107 = .ok (.iload_n 3, 1) := by decide +kernel
theorem dX6_readLayer_108 : decode cX6_readLayer 108 = .ok (.iconst 1, 1) := by decide +kernel
theorem dX6_readLayer_109 : decode cX6_readLayer 109 = .ok (.iadd, 1) := by decide +kernel
theorem dX6_readLayer_110 : decode cX6_readLayer 110 = .ok (.iaload, 1) := by decide +kernel
theorem dX6_readLayer_111 : decode cX6_readLayer 111 = .ok (.bipush (-9), 2) := by decide +kernel
theorem dX6_readLayer_113 : decode cX6_readLayer 113 = .ok (.if_icmp .ne 5, 3) := by decide +kernel
theorem dX6_readLayer_116 : decode cX6_readLayer 116 = .ok (.iconst 0, 1) := by decide +kernel
theorem dX6_readLayer_117 : decode cX6_readLayer 117 = .ok (.ireturn, 1) := by decide +kernel
theorem dX6_readLayer_118 : decode cX6_readLayer 118 = .ok (.aload_n 0, 1) := by decide +kernel
theorem dX6_readLayer_119 : decode cX6_readLayer 119 = .ok (.getfield 28, 3) := by decide +kernel
theorem dX6_readLayer_122 : decode cX6_readLayer 122 = .ok (.iload_n 3, 1) := by decide +kernel
theorem dX6_readLayer_123 : decode cX6_readLayer 123 = .ok (.iconst 2, 1) := by decide +kernel
theorem dX6_readLayer_124 : decode cX6_readLayer 124 = .ok (.iadd, 1) := by decide +kernel
theorem dX6_readLayer_125 : decode cX6_readLayer 125 = .ok (.aload_n 0, 1) := by decide +kernel
theorem dX6_readLayer_126 : decode cX6_readLayer 126 = .ok (.iload_n 1, 1) := by decide +kernel
theorem dX6_readLayer_127 : decode cX6_readLayer 127 = .ok (.invokevirtual 105, 3) := by decide +kernel
theorem dX6_readLayer_130 : decode cX6_readLayer 130 = .ok (.iastore, 1) := by decide +kernel
theorem dX6_readLayer_131 : decode cX6_readLayer 131 = .ok (.aload_n 0, 1) := by decide +kernel
theorem dX6_readLayer_132 : decode cX6_readLayer 132 = .ok (.dup, 1) := by decide +kernel
theorem dX6_readLayer_133 : decode cX6_readLayer 133 = .ok (.getfield 95, 3) := by decide +kernel
theorem dX6_readLayer_136 : decode cX6_readLayer 136 = .ok (.iconst 1, 1) := by decide +kernel
theorem dX6_readLayer_137 : decode cX6_readLayer 137 = .ok (.iadd, 1) := by decide +kernel
theorem dX6_readLayer_138 : decode cX6_readLayer 138 = .ok (.putfield 95, 3) := by decide +kernel
theorem dX6_readLayer_141 : decode cX6_readLayer 141 = .ok (.aload_n 0, 1) := by decide +kernel
theorem dX6_readLayer_142 : decode cX6_readLayer 142 = .ok (.getfield 28, 3) := by decide +kernel
theorem dX6_readLayer_145 : decode cX6_readLayer 145 = .ok (.iload_n 3, 1) := by decide +kernel
theorem dX6_readLayer_146 : decode cX6_readLayer 146 = .ok (.iconst 2, 1) := by decide +kernel
theorem dX6_readLayer_147 : decode cX6_readLayer 147 = .ok (.iadd, 1) := by decide +kernel
theorem dX6_readLayer_148 : decode cX6_readLayer 148 = .ok (.iaload, 1) := by decide +kernel
theorem dX6_readLayer_149 : decode cX6_readLayer 149 = .ok (.bipush (-9), 2) := by decide +kernel
theorem dX6_readLayer_151 : decode cX6_readLayer 151 = .ok (.if_icmp .eq 7, 3) := by decide +kernel
theorem dX6_readLayer_154 : decode cX6_readLayer 154 = .ok (.iconst 1, 1) := by decide +kernel
theorem dX6_readLayer_155 : decode cX6_readLayer 155 = .ok (.goto 4, 3) := by decide +kernel
theorem dX6_readLayer_158 : decode cX6_readLayer 158 = .ok (.iconst 0, 1) := by decide +kernel
theorem dX6_readLayer_159 : decode cX6_readLayer 159 = .ok (.ireturn, 1) := by decide +kernel
theorem dX6_gripOf_0 : decode cX6_gripOf 0 = .ok (.aload_n 0, 1) := by decide +kernel
theorem dX6_gripOf_1 : decode cX6_gripOf 1 = .ok (.getfield 19, 3) := by decide +kernel
theorem dX6_gripOf_4 : decode cX6_gripOf 4 = .ok (.iload_n 1, 1) := by decide +kernel
theorem dX6_gripOf_5 : decode cX6_gripOf 5 = .ok (.iaload, 1) := by decide +kernel
theorem dX6_gripOf_6 : decode cX6_gripOf 6 = .ok (.ifCond .ne 12, 3) := by decide +kernel
theorem dX6_gripOf_9 : decode cX6_gripOf 9 = .ok (.aload_n 0, 1) := by decide +kernel
theorem dX6_gripOf_10 : decode cX6_gripOf 10 = .ok (.getfield 22, 3) := by decide +kernel
theorem dX6_gripOf_13 : decode cX6_gripOf 13 = .ok (.iload_n 1, 1) := by decide +kernel
theorem dX6_gripOf_14 : decode cX6_gripOf 14 = .ok (.iaload, 1) := by decide +kernel
theorem dX6_gripOf_15 : decode cX6_gripOf 15 = .ok (.goto 32, 3) := by decide +kernel
theorem dX6_gripOf_18 : decode cX6_gripOf 18 = .ok (.aload_n 0, 1) := by decide +kernel
theorem dX6_gripOf_19 : decode cX6_gripOf 19 = .ok (.getfield 19, 3) := by decide +kernel
theorem dX6_gripOf_22 : decode cX6_gripOf 22 = .ok (.iload_n 1, 1) := by decide +kernel
theorem dX6_gripOf_23 : decode cX6_gripOf 23 = .ok (.iaload, 1) := by decide +kernel
theorem dX6_gripOf_24 : decode cX6_gripOf 24 = .ok (.iconst 1, 1) := by decide +kernel
theorem dX6_gripOf_25 : decode cX6_gripOf 25 = .ok (.if_icmp .ne 14, 3) := by decide +kernel
theorem dX6_gripOf_28 : decode cX6_gripOf 28 = .ok (.aload_n 0, 1) := by decide +kernel
theorem dX6_gripOf_29 : decode cX6_gripOf 29 = .ok (.getfield 22, 3) := by decide +kernel
theorem dX6_gripOf_32 : decode cX6_gripOf 32 = .ok (.iload_n 1, 1) := by decide +kernel
theorem dX6_gripOf_33 : decode cX6_gripOf 33 = .ok (.iaload, 1) := by decide +kernel
theorem dX6_gripOf_34 : decode cX6_gripOf 34 = .ok (.iconst 1, 1) := by decide +kernel
theorem dX6_gripOf_35 : decode cX6_gripOf 35 = .ok (.iadd, 1) := by decide +kernel
theorem dX6_gripOf_36 : decode cX6_gripOf 36 = .ok (.goto 11, 3) := by decide +kernel
theorem dX6_gripOf_39 : decode cX6_gripOf 39 = .ok (.iconst 2, 1) := by decide +kernel
theorem dX6_gripOf_40 : decode cX6_gripOf 40 = .ok (.aload_n 0, 1) := by decide +kernel
theorem dX6_gripOf_41 : decode cX6_gripOf 41 = .ok (.getfield 22, 3) := by decide +kernel
theorem dX6_gripOf_44 : decode cX6_gripOf 44 = .ok (.iload_n 1, 1) := by decide +kernel
theorem dX6_gripOf_45 : decode cX6_gripOf 45 = .ok (.iaload, 1) := by decide +kernel
theorem dX6_gripOf_46 : decode cX6_gripOf 46 = .ok (.imul, 1) := by decide +kernel
theorem dX6_gripOf_47 : decode cX6_gripOf 47 = .ok (.ireturn, 1) := by decide +kernel
theorem dX6_orderAsIs_0 : decode cX6_orderAsIs 0 = .ok (.iconst 0, 1) := by decide +kernel
theorem dX6_orderAsIs_1 : decode cX6_orderAsIs 1 = .ok (.istore_n 1, 1) := by decide +kernel
theorem dX6_orderAsIs_2 : decode cX6_orderAsIs 2 = .ok (.iload_n 1, 1) := by decide +kernel
theorem dX6_orderAsIs_3 : decode cX6_orderAsIs 3 = .ok (.aload_n 0, 1) := by decide +kernel
theorem dX6_orderAsIs_4 : decode cX6_orderAsIs 4 = .ok (.getfield 56, 3) := by decide +kernel
theorem dX6_orderAsIs_7 : decode cX6_orderAsIs 7 = .ok (.if_icmp .ge 16, 3) := by decide +kernel
theorem dX6_orderAsIs_10 : decode cX6_orderAsIs 10 = .ok (.aload_n 0, 1) := by decide +kernel
theorem dX6_orderAsIs_11 : decode cX6_orderAsIs 11 = .ok (.getfield 31, 3) := by decide +kernel
theorem dX6_orderAsIs_14 : decode cX6_orderAsIs 14 = .ok (.iload_n 1, 1) := by decide +kernel
theorem dX6_orderAsIs_15 : decode cX6_orderAsIs 15 = .ok (.iload_n 1, 1) := by decide +kernel
theorem dX6_orderAsIs_16 : decode cX6_orderAsIs 16 = .ok (.iastore, 1) := by decide +kernel
theorem dX6_orderAsIs_17 : decode cX6_orderAsIs 17 = .ok (.iinc 1 1, 3) := by decide +kernel
theorem dX6_orderAsIs_20 : decode cX6_orderAsIs 20 = .ok (.goto (-18), 3) := by decide +kernel
theorem dX6_orderAsIs_23 : decode cX6_orderAsIs 23 = .ok (.return_, 1) := by decide +kernel
set_option maxRecDepth 20000 in
theorem ggX6_liftedBy_X6_isOf : GoodIn wsX6_liftedBy wsX6_isOf := goodIn_r _ [6] (by decide +kernel) (by decide +kernel)
set_option maxRecDepth 20000 in
theorem gX6_liftedBy_X6_isOf : GoodIn wsX6_liftedBy (va_wsS RX6 111 yX6_isOf wsX6_isOf) := goodIn_app (goodIn_of _ (by decide +kernel)) ggX6_liftedBy_X6_isOf
set_option maxRecDepth 20000 in
theorem ggX6_liftedBy_X6_gripOf : GoodIn wsX6_liftedBy wsX6_gripOf := goodIn_r _ [10, 11, 12, 13, 14, 15, 16, 17, 18, 19, 20, 21, 22, 23, 24, 25, 26, 27, 28, 29, 30, 31, 32, 33, 34, 35, 36, 37, 38] (by decide +kernel) (by decide +kernel)
set_option maxRecDepth 20000 in
theorem gX6_liftedBy_X6_gripOf : GoodIn wsX6_liftedBy (wsV RX6 114 RX6 yX6_gripOf wsX6_gripOf) := goodIn_app (goodIn_of _ (by decide +kernel)) ggX6_liftedBy_X6_gripOf
theorem dX6_liftedBy_0 : decode cX6_liftedBy 0 = .ok (.iconst 0, 1) := by decide +kernel
theorem dX6_liftedBy_1 : decode cX6_liftedBy 1 = .ok (.istore 4, 2) := by decide +kernel
theorem dX6_liftedBy_3 : decode cX6_liftedBy 3 = .ok (.iconst 0, 1) := by decide +kernel
theorem dX6_liftedBy_4 : decode cX6_liftedBy 4 = .ok (.istore 5, 2) := by decide +kernel
theorem dX6_liftedBy_6 : decode cX6_liftedBy 6 = .ok (.iload 5, 2) := by decide +kernel
theorem dX6_liftedBy_8 : decode cX6_liftedBy 8 = .ok (.aload_n 0, 1) := by decide +kernel
theorem dX6_liftedBy_9 : decode cX6_liftedBy 9 = .ok (.getfield 56, 3) := by decide +kernel
theorem dX6_liftedBy_12 : decode cX6_liftedBy 12 = .ok (.if_icmp .ge 51, 3) := by decide +kernel
theorem dX6_liftedBy_15 : decode cX6_liftedBy 15 = .ok (.aload_n 0, 1) := by decide +kernel
theorem dX6_liftedBy_16 : decode cX6_liftedBy 16 = .ok (.getfield 31, 3) := by decide +kernel
theorem dX6_liftedBy_19 : decode cX6_liftedBy 19 = .ok (.iload 5, 2) := by decide +kernel
theorem dX6_liftedBy_21 : decode cX6_liftedBy 21 = .ok (.iaload, 1) := by decide +kernel
theorem dX6_liftedBy_22 : decode cX6_liftedBy 22 = .ok (.istore 6, 2) := by decide +kernel
theorem dX6_liftedBy_24 : decode cX6_liftedBy 24 = .ok (.iload_n 3, 1) := by decide +kernel
theorem dX6_liftedBy_25 : decode cX6_liftedBy 25 = .ok (.iload 6, 2) := by decide +kernel
theorem dX6_liftedBy_27 : decode cX6_liftedBy 27 = .ok (.invokestatic 111, 3) := by decide +kernel
theorem dX6_liftedBy_30 : decode cX6_liftedBy 30 = .ok (.ifCond .ne 27, 3) := by decide +kernel
theorem dX6_liftedBy_33 : decode cX6_liftedBy 33 = .ok (.iload_n 1, 1) := by decide +kernel
theorem dX6_liftedBy_34 : decode cX6_liftedBy 34 = .ok (.iload_n 2, 1) := by decide +kernel
theorem dX6_liftedBy_35 : decode cX6_liftedBy 35 = .ok (.isub, 1) := by decide +kernel
theorem dX6_liftedBy_36 : decode cX6_liftedBy 36 = .ok (.aload_n 0, 1) := by decide +kernel
theorem dX6_liftedBy_37 : decode cX6_liftedBy 37 = .ok (.iload 6, 2) := by decide +kernel
theorem dX6_liftedBy_39 : decode cX6_liftedBy 39 = .ok (.invokevirtual 114, 3) := by decide +kernel
theorem dX6_liftedBy_42 : decode cX6_liftedBy 42 = .ok (.if_icmp .ge 6, 3) := by decide +kernel
theorem dX6_liftedBy_45 : decode cX6_liftedBy 45 = .ok (.iload 4, 2) := by decide +kernel
theorem dX6_liftedBy_47 : decode cX6_liftedBy 47 = .ok (.ireturn, 1) := by decide +kernel
theorem dX6_liftedBy_48 : decode cX6_liftedBy 48 = .ok (.iload 4, 2) := by decide +kernel
theorem dX6_liftedBy_50 : decode cX6_liftedBy 50 = .ok (.iconst 1, 1) := by decide +kernel
theorem dX6_liftedBy_51 : decode cX6_liftedBy 51 = .ok (.iload 6, 2) := by decide +kernel
theorem dX6_liftedBy_53 : decode cX6_liftedBy 53 = .ok (.ishl, 1) := by decide +kernel
theorem dX6_liftedBy_54 : decode cX6_liftedBy 54 = .ok (.ior, 1) := by decide +kernel
theorem dX6_liftedBy_55 : decode cX6_liftedBy 55 = .ok (.istore 4, 2) := by decide +kernel
theorem dX6_liftedBy_57 : decode cX6_liftedBy 57 = .ok (.iinc 5 1, 3) := by decide +kernel
theorem dX6_liftedBy_60 : decode cX6_liftedBy 60 = .ok (.goto (-54), 3) := by decide +kernel
theorem dX6_liftedBy_63 : decode cX6_liftedBy 63 = .ok (.iload 4, 2) := by decide +kernel
theorem dX6_liftedBy_65 : decode cX6_liftedBy 65 = .ok (.ireturn, 1) := by decide +kernel
set_option maxRecDepth 20000 in
theorem ggX6_heardBy_X6_liftedBy : GoodIn wsX6_heardBy wsX6_liftedBy := goodIn_r _ [8, 1, 2, 9, 10, 7, 11, 12, 13, 14, 15, 3, 16, 17, 18, 19, 20, 21, 22, 23, 24, 25, 26, 27, 28, 29, 30, 31, 32, 33, 34, 35, 36, 37, 38, 39, 40, 41, 42] (by decide +kernel) (by decide +kernel)
set_option maxRecDepth 20000 in
theorem gX6_heardBy_X6_liftedBy : GoodIn wsX6_heardBy (wsV RX6 117 RX6 yX6_liftedBy wsX6_liftedBy) := goodIn_app (goodIn_of _ (by decide +kernel)) ggX6_heardBy_X6_liftedBy
set_option maxRecDepth 20000 in
theorem ggX6_heardBy_X6_isOf : GoodIn wsX6_heardBy wsX6_isOf := goodIn_r _ [11] (by decide +kernel) (by decide +kernel)
set_option maxRecDepth 20000 in
theorem gX6_heardBy_X6_isOf : GoodIn wsX6_heardBy (va_wsS RX6 111 yX6_isOf wsX6_isOf) := goodIn_app (goodIn_of _ (by decide +kernel)) ggX6_heardBy_X6_isOf
theorem dX6_heardBy_0 : decode cX6_heardBy 0 = .ok (.aload_n 0, 1) := by decide +kernel
theorem dX6_heardBy_1 : decode cX6_heardBy 1 = .ok (.iload_n 1, 1) := by decide +kernel
theorem dX6_heardBy_2 : decode cX6_heardBy 2 = .ok (.iload_n 2, 1) := by decide +kernel
theorem dX6_heardBy_3 : decode cX6_heardBy 3 = .ok (.iload_n 3, 1) := by decide +kernel
theorem dX6_heardBy_4 : decode cX6_heardBy 4 = .ok (.invokevirtual 117, 3) := by decide +kernel
theorem dX6_heardBy_7 : decode cX6_heardBy 7 = .ok (.istore 4, 2) := by decide +kernel
theorem dX6_heardBy_9 : decode cX6_heardBy 9 = .ok (.iconst 0, 1) := by decide +kernel
theorem dX6_heardBy_10 : decode cX6_heardBy 10 = .ok (.istore 5, 2) := by decide +kernel
theorem dX6_heardBy_12 : decode cX6_heardBy 12 = .ok (.iconst 0, 1) := by decide +kernel
theorem dX6_heardBy_13 : decode cX6_heardBy 13 = .ok (.istore 6, 2) := by decide +kernel
theorem dX6_heardBy_15 : decode cX6_heardBy 15 = .ok (.iload 6, 2) := by decide +kernel
theorem dX6_heardBy_17 : decode cX6_heardBy 17 = .ok (.aload_n 0, 1) := by decide +kernel
theorem dX6_heardBy_18 : decode cX6_heardBy 18 = .ok (.getfield 56, 3) := by decide +kernel
theorem dX6_heardBy_21 : decode cX6_heardBy 21 = .ok (.if_icmp .ge 51, 3) := by decide +kernel
theorem dX6_heardBy_24 : decode cX6_heardBy 24 = .ok (.aload_n 0, 1) := by decide +kernel
theorem dX6_heardBy_25 : decode cX6_heardBy 25 = .ok (.getfield 31, 3) := by decide +kernel
theorem dX6_heardBy_28 : decode cX6_heardBy 28 = .ok (.iload 6, 2) := by decide +kernel
theorem dX6_heardBy_30 : decode cX6_heardBy 30 = .ok (.iaload, 1) := by decide +kernel
theorem dX6_heardBy_31 : decode cX6_heardBy 31 = .ok (.istore 7, 2) := by decide +kernel
theorem dX6_heardBy_33 : decode cX6_heardBy 33 = .ok (.iload 4, 2) := by decide +kernel
theorem dX6_heardBy_35 : decode cX6_heardBy 35 = .ok (.iload 7, 2) := by decide +kernel
theorem dX6_heardBy_37 : decode cX6_heardBy 37 = .ok (.invokestatic 111, 3) := by decide +kernel
theorem dX6_heardBy_40 : decode cX6_heardBy 40 = .ok (.ifCond .eq 26, 3) := by decide +kernel
theorem dX6_heardBy_43 : decode cX6_heardBy 43 = .ok (.aload_n 0, 1) := by decide +kernel
theorem dX6_heardBy_44 : decode cX6_heardBy 44 = .ok (.getfield 19, 3) := by decide +kernel
theorem dX6_heardBy_47 : decode cX6_heardBy 47 = .ok (.iload 7, 2) := by decide +kernel
theorem dX6_heardBy_49 : decode cX6_heardBy 49 = .ok (.iaload, 1) := by decide +kernel
theorem dX6_heardBy_50 : decode cX6_heardBy 50 = .ok (.iconst 2, 1) := by decide +kernel
theorem dX6_heardBy_51 : decode cX6_heardBy 51 = .ok (.if_icmp .ne 6, 3) := by decide +kernel
theorem dX6_heardBy_54 : decode cX6_heardBy 54 = .ok (.iload 5, 2) := by decide +kernel
theorem dX6_heardBy_56 : decode cX6_heardBy 56 = .ok (.ireturn, 1) := by decide +kernel
theorem dX6_heardBy_57 : decode cX6_heardBy 57 = .ok (.iload 5, 2) := by decide +kernel
theorem dX6_heardBy_59 : decode cX6_heardBy 59 = .ok (.iconst 1, 1) := by decide +kernel
theorem dX6_heardBy_60 : decode cX6_heardBy 60 = .ok (.iload 7, 2) := by decide +kernel
theorem dX6_heardBy_62 : decode cX6_heardBy 62 = .ok (.ishl, 1) := by decide +kernel
theorem dX6_heardBy_63 : decode cX6_heardBy 63 = .ok (.ior, 1) := by decide +kernel
theorem dX6_heardBy_64 : decode cX6_heardBy 64 = .ok (.istore 5, 2) := by decide +kernel
theorem dX6_heardBy_66 : decode cX6_heardBy 66 = .ok (.iinc 6 1, 3) := by decide +kernel
theorem dX6_heardBy_69 : decode cX6_heardBy 69 = .ok (.goto (-54), 3) := by decide +kernel
theorem dX6_heardBy_72 : decode cX6_heardBy 72 = .ok (.iload 5, 2) := by decide +kernel
theorem dX6_heardBy_74 : decode cX6_heardBy 74 = .ok (.ireturn, 1) := by decide +kernel
set_option maxRecDepth 20000 in
theorem ggX6_givers_X6_isOf : GoodIn wsX6_givers wsX6_isOf := goodIn_r _ [6] (by decide +kernel) (by decide +kernel)
set_option maxRecDepth 20000 in
theorem gX6_givers_X6_isOf : GoodIn wsX6_givers (va_wsS RX6 111 yX6_isOf wsX6_isOf) := goodIn_app (goodIn_of _ (by decide +kernel)) ggX6_givers_X6_isOf
theorem dX6_givers_0 : decode cX6_givers 0 = .ok (.iconst 0, 1) := by decide +kernel
theorem dX6_givers_1 : decode cX6_givers 1 = .ok (.istore_n 3, 1) := by decide +kernel
theorem dX6_givers_2 : decode cX6_givers 2 = .ok (.iconst 0, 1) := by decide +kernel
theorem dX6_givers_3 : decode cX6_givers 3 = .ok (.istore 4, 2) := by decide +kernel
theorem dX6_givers_5 : decode cX6_givers 5 = .ok (.iload 4, 2) := by decide +kernel
theorem dX6_givers_7 : decode cX6_givers 7 = .ok (.aload_n 0, 1) := by decide +kernel
theorem dX6_givers_8 : decode cX6_givers 8 = .ok (.getfield 56, 3) := by decide +kernel
theorem dX6_givers_11 : decode cX6_givers 11 = .ok (.if_icmp .ge 37, 3) := by decide +kernel
theorem dX6_givers_14 : decode cX6_givers 14 = .ok (.iload_n 3, 1) := by decide +kernel
theorem dX6_givers_15 : decode cX6_givers 15 = .ok (.iload_n 1, 1) := by decide +kernel
theorem dX6_givers_16 : decode cX6_givers 16 = .ok (.iload 4, 2) := by decide +kernel
theorem dX6_givers_18 : decode cX6_givers 18 = .ok (.invokestatic 111, 3) := by decide +kernel
theorem dX6_givers_21 : decode cX6_givers 21 = .ok (.ifCond .eq 18, 3) := by decide +kernel
theorem dX6_givers_24 : decode cX6_givers 24 = .ok (.aload_n 0, 1) := by decide +kernel
theorem dX6_givers_25 : decode cX6_givers 25 = .ok (.getfield 25, 3) := by decide +kernel
theorem dX6_givers_28 : decode cX6_givers 28 = .ok (.iload 4, 2) := by decide +kernel
theorem dX6_givers_30 : decode cX6_givers 30 = .ok (.iaload, 1) := by decide +kernel
theorem dX6_givers_31 : decode cX6_givers 31 = .ok (.iload_n 2, 1) := by decide +kernel
theorem dX6_givers_32 : decode cX6_givers 32 = .ok (.if_icmp .ne 7, 3) := by decide +kernel
theorem dX6_givers_35 : decode cX6_givers 35 = .ok (.iconst 1, 1) := by decide +kernel
theorem dX6_givers_36 : decode cX6_givers 36 = .ok (.goto 4, 3) := by decide +kernel
theorem dX6_givers_39 : decode cX6_givers 39 = .ok (.iconst 0, 1) := by decide +kernel
theorem dX6_givers_40 : decode cX6_givers 40 = .ok (.iadd, 1) := by decide +kernel
theorem dX6_givers_41 : decode cX6_givers 41 = .ok (.istore_n 3, 1) := by decide +kernel
theorem dX6_givers_42 : decode cX6_givers 42 = .ok (.iinc 4 1, 3) := by decide +kernel
theorem dX6_givers_45 : decode cX6_givers 45 = .ok (.goto (-40), 3) := by decide +kernel
theorem dX6_givers_48 : decode cX6_givers 48 = .ok (.iload_n 3, 1) := by decide +kernel
theorem dX6_givers_49 : decode cX6_givers 49 = .ok (.ireturn, 1) := by decide +kernel
set_option maxRecDepth 20000 in
theorem ggX6_counselBy_X6_heardBy : GoodIn wsX6_counselBy wsX6_heardBy := goodIn_r _ [8, 1, 2, 9, 10, 11, 12, 7, 13, 14, 15, 16, 17, 18, 19, 20, 21, 26, 27, 28, 29, 30, 31, 32, 33, 34, 35, 36, 37, 38, 39, 40, 41, 42, 43, 44, 45, 46, 47, 48, 49, 50, 51] (by decide +kernel) (by decide +kernel)
set_option maxRecDepth 20000 in
theorem gX6_counselBy_X6_heardBy : GoodIn wsX6_counselBy (wsV RX6 121 RX6 yX6_heardBy wsX6_heardBy) := goodIn_app (goodIn_of _ (by decide +kernel)) ggX6_counselBy_X6_heardBy
set_option maxRecDepth 20000 in
theorem ggX6_counselBy_X6_isOf : GoodIn wsX6_counselBy wsX6_isOf := goodIn_r _ [16] (by decide +kernel) (by decide +kernel)
set_option maxRecDepth 20000 in
theorem gX6_counselBy_X6_isOf : GoodIn wsX6_counselBy (va_wsS RX6 111 yX6_isOf wsX6_isOf) := goodIn_app (goodIn_of _ (by decide +kernel)) ggX6_counselBy_X6_isOf
set_option maxRecDepth 20000 in
theorem ggX6_counselBy_X6_givers : GoodIn wsX6_counselBy wsX6_givers := goodIn_r _ [25, 1, 3, 14, 15, 7, 16, 26, 27, 28, 29, 30, 31, 32, 33, 34, 35, 36, 37, 38, 39, 40, 41, 42, 43, 44, 45, 46, 47, 48, 49, 50, 51] (by decide +kernel) (by decide +kernel)
set_option maxRecDepth 20000 in
theorem gX6_counselBy_X6_givers : GoodIn wsX6_counselBy (wsV RX6 124 RX6 yX6_givers wsX6_givers) := goodIn_app (goodIn_of _ (by decide +kernel)) ggX6_counselBy_X6_givers
theorem dX6_counselBy_0 : decode cX6_counselBy 0 = .ok (.aload_n 0, 1) := by decide +kernel
theorem dX6_counselBy_1 : decode cX6_counselBy 1 = .ok (.iload_n 1, 1) := by decide +kernel
theorem dX6_counselBy_2 : decode cX6_counselBy 2 = .ok (.iload_n 2, 1) := by decide +kernel
theorem dX6_counselBy_3 : decode cX6_counselBy 3 = .ok (.iload_n 3, 1) := by decide +kernel
theorem dX6_counselBy_4 : decode cX6_counselBy 4 = .ok (.invokevirtual 121, 3) := by decide +kernel
theorem dX6_counselBy_7 : decode cX6_counselBy 7 = .ok (.istore 4, 2) := by decide +kernel
theorem dX6_counselBy_9 : decode cX6_counselBy 9 = .ok (.bipush (-9), 2) := by decide +kernel
theorem dX6_counselBy_11 : decode cX6_counselBy 11 = .ok (.istore 5, 2) := by decide +kernel
theorem dX6_counselBy_13 : decode cX6_counselBy 13 = .ok (.iconst 0, 1) := by decide +kernel
theorem dX6_counselBy_14 : decode cX6_counselBy 14 = .ok (.istore 6, 2) := by decide +kernel
theorem dX6_counselBy_16 : decode cX6_counselBy 16 = .ok (.iconst 0, 1) := by decide +kernel
theorem dX6_counselBy_17 : decode cX6_counselBy 17 = .ok (.istore 7, 2) := by decide +kernel
theorem dX6_counselBy_19 : decode cX6_counselBy 19 = .ok (.iload 7, 2) := by decide +kernel
theorem dX6_counselBy_21 : decode cX6_counselBy 21 = .ok (.aload_n 0, 1) := by decide +kernel
theorem dX6_counselBy_22 : decode cX6_counselBy 22 = .ok (.getfield 56, 3) := by decide +kernel
theorem dX6_counselBy_25 : decode cX6_counselBy 25 = .ok (.if_icmp .ge 70, 3) := by decide +kernel
theorem dX6_counselBy_28 : decode cX6_counselBy 28 = .ok (.aload_n 0, 1) := by decide +kernel
theorem dX6_counselBy_29 : decode cX6_counselBy 29 = .ok (.getfield 31, 3) := by decide +kernel
theorem dX6_counselBy_32 : decode cX6_counselBy 32 = .ok (.iload 7, 2) := by decide +kernel
theorem dX6_counselBy_34 : decode cX6_counselBy 34 = .ok (.iaload, 1) := by decide +kernel
theorem dX6_counselBy_35 : decode cX6_counselBy 35 = .ok (.istore 8, 2) := by decide +kernel
theorem dX6_counselBy_37 : decode cX6_counselBy 37 = .ok (.iload 4, 2) := by decide +kernel
theorem dX6_counselBy_39 : decode cX6_counselBy 39 = .ok (.iload 8, 2) := by decide +kernel
theorem dX6_counselBy_41 : decode cX6_counselBy 41 = .ok (.invokestatic 111, 3) := by decide +kernel
theorem dX6_counselBy_44 : decode cX6_counselBy 44 = .ok (.ifCond .eq 45, 3) := by decide +kernel
theorem dX6_counselBy_47 : decode cX6_counselBy 47 = .ok (.aload_n 0, 1) := by decide +kernel
theorem dX6_counselBy_48 : decode cX6_counselBy 48 = .ok (.iload 4, 2) := by decide +kernel
theorem dX6_counselBy_50 : decode cX6_counselBy 50 = .ok (.aload_n 0, 1) := by decide +kernel
theorem dX6_counselBy_51 : decode cX6_counselBy 51 = .ok (.getfield 25, 3) := by decide +kernel
theorem dX6_counselBy_54 : decode cX6_counselBy 54 = .ok (.iload 8, 2) := by decide +kernel
theorem dX6_counselBy_56 : decode cX6_counselBy 56 = .ok (.iaload, 1) := by decide +kernel
theorem dX6_counselBy_57 : decode cX6_counselBy 57 = .ok (.invokevirtual 124, 3) := by decide +kernel
theorem dX6_counselBy_60 : decode cX6_counselBy 60 = .ok (.iload 6, 2) := by decide +kernel
theorem dX6_counselBy_62 : decode cX6_counselBy 62 = .ok (.if_icmp .le 27, 3) := by decide +kernel
theorem dX6_counselBy_65 : decode cX6_counselBy 65 = .ok (.aload_n 0, 1) := by decide +kernel
theorem dX6_counselBy_66 : decode cX6_counselBy 66 = .ok (.iload 4, 2) := by decide +kernel
theorem dX6_counselBy_68 : decode cX6_counselBy 68 = .ok (.aload_n 0, 1) := by decide +kernel
theorem dX6_counselBy_69 : decode cX6_counselBy 69 = .ok (.getfield 25, 3) := by decide +kernel
theorem dX6_counselBy_72 : decode cX6_counselBy 72 = .ok (.iload 8, 2) := by decide +kernel
theorem dX6_counselBy_74 : decode cX6_counselBy 74 = .ok (.iaload, 1) := by decide +kernel
theorem dX6_counselBy_75 : decode cX6_counselBy 75 = .ok (.invokevirtual 124, 3) := by decide +kernel
theorem dX6_counselBy_78 : decode cX6_counselBy 78 = .ok (.istore 6, 2) := by decide +kernel
theorem dX6_counselBy_80 : decode cX6_counselBy 80 = .ok (.aload_n 0, 1) := by decide +kernel
theorem dX6_counselBy_81 : decode cX6_counselBy 81 = .ok (.getfield 25, 3) := by decide +kernel
theorem dX6_counselBy_84 : decode cX6_counselBy 84 = .ok (.iload 8, 2) := by decide +kernel
theorem dX6_counselBy_86 : decode cX6_counselBy 86 = .ok (.iaload, 1) := by decide +kernel
theorem dX6_counselBy_87 : decode cX6_counselBy 87 = .ok (.istore 5, 2) := by decide +kernel
theorem dX6_counselBy_89 : decode cX6_counselBy 89 = .ok (.iinc 7 1, 3) := by decide +kernel
theorem dX6_counselBy_92 : decode cX6_counselBy 92 = .ok (.goto (-73), 3) := by decide +kernel
theorem dX6_counselBy_95 : decode cX6_counselBy 95 = .ok (.iload 5, 2) := by decide +kernel
theorem dX6_counselBy_97 : decode cX6_counselBy 97 = .ok (.ireturn, 1) := by decide +kernel
set_option maxRecDepth 20000 in
theorem ggX6_heardNow_X6_orderAsIs : GoodIn wsX6_heardNow wsX6_orderAsIs := goodIn_r _ [7, 8, 9, 27, 28, 29, 30, 31, 32, 33, 34, 35, 36, 37, 38, 39, 40, 41, 42, 43, 44, 45, 46, 47, 48, 49, 50, 51, 52] (by decide +kernel) (by decide +kernel)
set_option maxRecDepth 20000 in
theorem gX6_heardNow_X6_orderAsIs : GoodIn wsX6_heardNow (wsV RX6 128 RX6 yX6_orderAsIs wsX6_orderAsIs) := goodIn_app (goodIn_of _ (by decide +kernel)) ggX6_heardNow_X6_orderAsIs
set_option maxRecDepth 20000 in
theorem ggX6_heardNow_X6_heardBy : GoodIn wsX6_heardNow wsX6_heardBy := goodIn_r _ [13, 8, 9, 14, 15, 16, 17, 6, 18, 19, 20, 21, 22, 23, 24, 25, 26, 27, 28, 29, 30, 31, 32, 33, 34, 35, 36, 37, 38, 39, 40, 41, 42, 43, 44, 45, 46, 47, 48, 49, 50, 51, 52] (by decide +kernel) (by decide +kernel)
set_option maxRecDepth 20000 in
theorem gX6_heardNow_X6_heardBy : GoodIn wsX6_heardNow (wsV RX6 121 RX6 yX6_heardBy wsX6_heardBy) := goodIn_app (goodIn_of _ (by decide +kernel)) ggX6_heardNow_X6_heardBy
theorem dX6_heardNow_0 : decode cX6_heardNow 0 = .ok (.aload_n 0, 1) := by decide +kernel
theorem dX6_heardNow_1 : decode cX6_heardNow 1 = .ok (.invokevirtual 128, 3) := by decide +kernel
theorem dX6_heardNow_4 : decode cX6_heardNow 4 = .ok (.aload_n 0, 1) := by decide +kernel
theorem dX6_heardNow_5 : decode cX6_heardNow 5 = .ok (.aload_n 0, 1) := by decide +kernel
theorem dX6_heardNow_6 : decode cX6_heardNow 6 = .ok (.getfield 86, 3) := by decide +kernel
theorem dX6_heardNow_9 : decode cX6_heardNow 9 = .ok (.aload_n 0, 1) := by decide +kernel
theorem dX6_heardNow_10 : decode cX6_heardNow 10 = .ok (.getfield 92, 3) := by decide +kernel
theorem dX6_heardNow_13 : decode cX6_heardNow 13 = .ok (.iconst 0, 1) := by decide +kernel
theorem dX6_heardNow_14 : decode cX6_heardNow 14 = .ok (.invokevirtual 121, 3) := by decide +kernel
theorem dX6_heardNow_17 : decode cX6_heardNow 17 = .ok (.ireturn, 1) := by decide +kernel
set_option maxRecDepth 20000 in
theorem ggX6_liftedNow_X6_orderAsIs : GoodIn wsX6_liftedNow wsX6_orderAsIs := goodIn_r _ [7, 8, 9, 23, 24, 25, 26, 27, 28, 29, 30, 31, 32, 33, 34, 35, 36, 37, 38, 39, 40, 41, 42, 43, 44, 45, 46, 47, 48] (by decide +kernel) (by decide +kernel)
set_option maxRecDepth 20000 in
theorem gX6_liftedNow_X6_orderAsIs : GoodIn wsX6_liftedNow (wsV RX6 128 RX6 yX6_orderAsIs wsX6_orderAsIs) := goodIn_app (goodIn_of _ (by decide +kernel)) ggX6_liftedNow_X6_orderAsIs
set_option maxRecDepth 20000 in
theorem ggX6_liftedNow_X6_liftedBy : GoodIn wsX6_liftedNow wsX6_liftedBy := goodIn_r _ [13, 8, 9, 14, 15, 6, 16, 17, 18, 19, 20, 21, 22, 23, 24, 25, 26, 27, 28, 29, 30, 31, 32, 33, 34, 35, 36, 37, 38, 39, 40, 41, 42, 43, 44, 45, 46, 47, 48] (by decide +kernel) (by decide +kernel)
set_option maxRecDepth 20000 in
theorem gX6_liftedNow_X6_liftedBy : GoodIn wsX6_liftedNow (wsV RX6 117 RX6 yX6_liftedBy wsX6_liftedBy) := goodIn_app (goodIn_of _ (by decide +kernel)) ggX6_liftedNow_X6_liftedBy
theorem dX6_liftedNow_0 : decode cX6_liftedNow 0 = .ok (.aload_n 0, 1) := by decide +kernel
theorem dX6_liftedNow_1 : decode cX6_liftedNow 1 = .ok (.invokevirtual 128, 3) := by decide +kernel
theorem dX6_liftedNow_4 : decode cX6_liftedNow 4 = .ok (.aload_n 0, 1) := by decide +kernel
theorem dX6_liftedNow_5 : decode cX6_liftedNow 5 = .ok (.aload_n 0, 1) := by decide +kernel
theorem dX6_liftedNow_6 : decode cX6_liftedNow 6 = .ok (.getfield 86, 3) := by decide +kernel
theorem dX6_liftedNow_9 : decode cX6_liftedNow 9 = .ok (.aload_n 0, 1) := by decide +kernel
theorem dX6_liftedNow_10 : decode cX6_liftedNow 10 = .ok (.getfield 92, 3) := by decide +kernel
theorem dX6_liftedNow_13 : decode cX6_liftedNow 13 = .ok (.iconst 0, 1) := by decide +kernel
theorem dX6_liftedNow_14 : decode cX6_liftedNow 14 = .ok (.invokevirtual 117, 3) := by decide +kernel
theorem dX6_liftedNow_17 : decode cX6_liftedNow 17 = .ok (.ireturn, 1) := by decide +kernel
set_option maxRecDepth 20000 in
theorem ggX6_ofLayer_X6_isLayer : GoodIn wsX6_ofLayer wsX6_isLayer := goodIn_r _ [8, 9, 40, 41, 42, 43, 44, 45, 46, 47, 48, 49, 50, 51, 52, 53, 54, 55, 56, 57, 58, 59, 60, 61, 62, 63, 64, 65] (by decide +kernel) (by decide +kernel)
set_option maxRecDepth 20000 in
theorem gX6_ofLayer_X6_isLayer : GoodIn wsX6_ofLayer (wsV RX6 131 RX6 yX6_isLayer wsX6_isLayer) := goodIn_app (goodIn_of _ (by decide +kernel)) ggX6_ofLayer_X6_isLayer
set_option maxRecDepth 20000 in
theorem ggX6_ofLayer_X6_gripOf : GoodIn wsX6_ofLayer wsX6_gripOf := goodIn_r _ [13, 1, 2, 40, 41, 42, 43, 44, 45, 46, 47, 48, 49, 50, 51, 52, 53, 54, 55, 56, 57, 58, 59, 60, 61, 62, 63, 64, 65] (by decide +kernel) (by decide +kernel)
set_option maxRecDepth 20000 in
theorem gX6_ofLayer_X6_gripOf : GoodIn wsX6_ofLayer (wsV RX6 114 RX6 yX6_gripOf wsX6_gripOf) := goodIn_app (goodIn_of _ (by decide +kernel)) ggX6_ofLayer_X6_gripOf
set_option maxRecDepth 20000 in
theorem ggX6_ofLayer_X6_liftedNow : GoodIn wsX6_ofLayer wsX6_liftedNow := goodIn_r _ [17, 18, 19, 20, 21, 22, 7, 23, 9, 24, 25, 26, 27, 28, 29, 30, 31, 10, 11, 12, 13, 1, 2, 40, 41, 42, 43, 44, 45, 46, 47, 48, 49, 50, 51, 52, 53, 54, 55, 56, 57, 58, 59, 60, 61, 62, 63, 64, 65] (by decide +kernel) (by decide +kernel)
set_option maxRecDepth 20000 in
theorem gX6_ofLayer_X6_liftedNow : GoodIn wsX6_ofLayer (wsV RX6 134 RX6 yX6_liftedNow wsX6_liftedNow) := goodIn_app (goodIn_of _ (by decide +kernel)) ggX6_ofLayer_X6_liftedNow
set_option maxRecDepth 20000 in
theorem ggX6_ofLayer_X6_heardNow : GoodIn wsX6_ofLayer wsX6_heardNow := goodIn_r _ [35, 18, 19, 20, 21, 22, 7, 23, 9, 24, 36, 37, 38, 39, 1, 25, 26, 27, 28, 29, 30, 31, 10, 11, 12, 13, 2, 40, 41, 42, 43, 44, 45, 46, 47, 48, 49, 50, 51, 52, 53, 54, 55, 56, 57, 58, 59, 60, 61, 62, 63, 64, 65] (by decide +kernel) (by decide +kernel)
set_option maxRecDepth 20000 in
theorem gX6_ofLayer_X6_heardNow : GoodIn wsX6_ofLayer (wsV RX6 138 RX6 yX6_heardNow wsX6_heardNow) := goodIn_app (goodIn_of _ (by decide +kernel)) ggX6_ofLayer_X6_heardNow
theorem dX6_ofLayer_0 : decode cX6_ofLayer 0 = .ok (.aload_n 0, 1) := by decide +kernel
theorem dX6_ofLayer_1 : decode cX6_ofLayer 1 = .ok (.iload_n 1, 1) := by decide +kernel
theorem dX6_ofLayer_2 : decode cX6_ofLayer 2 = .ok (.invokevirtual 131, 3) := by decide +kernel
theorem dX6_ofLayer_5 : decode cX6_ofLayer 5 = .ok (.ifCond .ne 5, 3) := by decide +kernel
theorem dX6_ofLayer_8 : decode cX6_ofLayer 8 = .ok (.iconst (-1), 1) := by decide +kernel
theorem dX6_ofLayer_9 : decode cX6_ofLayer 9 = .ok (.ireturn, 1) := by decide +kernel
theorem dX6_ofLayer_10 : decode cX6_ofLayer 10 = .ok (.iload_n 2, 1) := by decide +kernel
theorem dX6_ofLayer_11 : decode cX6_ofLayer 11 = .ok (.tableswitch 82 0 5 #[37, 44, 51, 58, 64, 73], 37) := by decide +kernel
theorem dX6_ofLayer_48 : decode cX6_ofLayer 48 = .ok (.aload_n 0, 1) := by decide +kernel
theorem dX6_ofLayer_49 : decode cX6_ofLayer 49 = .ok (.getfield 19, 3) := by decide +kernel
theorem dX6_ofLayer_52 : decode cX6_ofLayer 52 = .ok (.iload_n 1, 1) := by decide +kernel
theorem dX6_ofLayer_53 : decode cX6_ofLayer 53 = .ok (.iaload, 1) := by decide +kernel
theorem dX6_ofLayer_54 : decode cX6_ofLayer 54 = .ok (.ireturn, 1) := by decide +kernel
theorem dX6_ofLayer_55 : decode cX6_ofLayer 55 = .ok (.aload_n 0, 1) := by decide +kernel
theorem dX6_ofLayer_56 : decode cX6_ofLayer 56 = .ok (.getfield 22, 3) := by decide +kernel
theorem dX6_ofLayer_59 : decode cX6_ofLayer 59 = .ok (.iload_n 1, 1) := by decide +kernel
theorem dX6_ofLayer_60 : decode cX6_ofLayer 60 = .ok (.iaload, 1) := by decide +kernel
theorem dX6_ofLayer_61 : decode cX6_ofLayer 61 = .ok (.ireturn, 1) := by decide +kernel
theorem dX6_ofLayer_62 : decode cX6_ofLayer 62 = .ok (.aload_n 0, 1) := by decide +kernel
theorem dX6_ofLayer_63 : decode cX6_ofLayer 63 = .ok (.getfield 25, 3) := by decide +kernel
theorem dX6_ofLayer_66 : decode cX6_ofLayer 66 = .ok (.iload_n 1, 1) := by decide +kernel
theorem dX6_ofLayer_67 : decode cX6_ofLayer 67 = .ok (.iaload, 1) := by decide +kernel
theorem dX6_ofLayer_68 : decode cX6_ofLayer 68 = .ok (.ireturn, 1) := by decide +kernel
theorem dX6_ofLayer_69 : decode cX6_ofLayer 69 = .ok (.aload_n 0, 1) := by decide +kernel
theorem dX6_ofLayer_70 : decode cX6_ofLayer 70 = .ok (.iload_n 1, 1) := by decide +kernel
theorem dX6_ofLayer_71 : decode cX6_ofLayer 71 = .ok (.invokevirtual 114, 3) := by decide +kernel
theorem dX6_ofLayer_74 : decode cX6_ofLayer 74 = .ok (.ireturn, 1) := by decide +kernel
theorem dX6_ofLayer_75 : decode cX6_ofLayer 75 = .ok (.aload_n 0, 1) := by decide +kernel
theorem dX6_ofLayer_76 : decode cX6_ofLayer 76 = .ok (.invokevirtual 134, 3) := by decide +kernel
theorem dX6_ofLayer_79 : decode cX6_ofLayer 79 = .ok (.iload_n 1, 1) := by decide +kernel
theorem dX6_ofLayer_80 : decode cX6_ofLayer 80 = .ok (.ishr, 1) := by decide +kernel
theorem dX6_ofLayer_81 : decode cX6_ofLayer 81 = .ok (.iconst 1, 1) := by decide +kernel
theorem dX6_ofLayer_82 : decode cX6_ofLayer 82 = .ok (.iand, 1) := by decide +kernel
theorem dX6_ofLayer_83 : decode cX6_ofLayer 83 = .ok (.ireturn, 1) := by decide +kernel
theorem dX6_ofLayer_84 : decode cX6_ofLayer 84 = .ok (.aload_n 0, 1) := by decide +kernel
theorem dX6_ofLayer_85 : decode cX6_ofLayer 85 = .ok (.invokevirtual 138, 3) := by decide +kernel
theorem dX6_ofLayer_88 : decode cX6_ofLayer 88 = .ok (.iload_n 1, 1) := by decide +kernel
theorem dX6_ofLayer_89 : decode cX6_ofLayer 89 = .ok (.ishr, 1) := by decide +kernel
theorem dX6_ofLayer_90 : decode cX6_ofLayer 90 = .ok (.iconst 1, 1) := by decide +kernel
theorem dX6_ofLayer_91 : decode cX6_ofLayer 91 = .ok (.iand, 1) := by decide +kernel
theorem dX6_ofLayer_92 : decode cX6_ofLayer 92 = .ok (.ireturn, 1) := by decide +kernel
theorem dX6_ofLayer_93 : decode cX6_ofLayer 93 = .ok (.bipush (-2), 2) := by decide +kernel
theorem dX6_ofLayer_95 : decode cX6_ofLayer 95 = .ok (.ireturn, 1) := by decide +kernel
set_option maxRecDepth 20000 in
theorem ggX6_heat_X6_within : GoodIn wsX6_heat wsX6_within := goodIn_r _ [6] (by decide +kernel) (by decide +kernel)
set_option maxRecDepth 20000 in
theorem gX6_heat_X6_within : GoodIn wsX6_heat (va_wsS RX6 52 yX6_within wsX6_within) := goodIn_app (goodIn_of _ (by decide +kernel)) ggX6_heat_X6_within
theorem dX6_heat_0 : decode cX6_heat 0 = .ok (.iload_n 1, 1) := by decide +kernel
theorem dX6_heat_1 : decode cX6_heat 1 = .ok (.iconst 0, 1) := by decide +kernel
theorem dX6_heat_2 : decode cX6_heat 2 = .ok (.bipush 20, 2) := by decide +kernel
theorem dX6_heat_4 : decode cX6_heat 4 = .ok (.invokestatic 52, 3) := by decide +kernel
theorem dX6_heat_7 : decode cX6_heat 7 = .ok (.ifCond .ne 6, 3) := by decide +kernel
theorem dX6_heat_10 : decode cX6_heat 10 = .ok (.bipush (-2), 2) := by decide +kernel
theorem dX6_heat_12 : decode cX6_heat 12 = .ok (.ireturn, 1) := by decide +kernel
theorem dX6_heat_13 : decode cX6_heat 13 = .ok (.aload_n 0, 1) := by decide +kernel
theorem dX6_heat_14 : decode cX6_heat 14 = .ok (.getfield 56, 3) := by decide +kernel
theorem dX6_heat_17 : decode cX6_heat 17 = .ok (.ifCond .ne 6, 3) := by decide +kernel
theorem dX6_heat_20 : decode cX6_heat 20 = .ok (.bipush (-3), 2) := by decide +kernel
theorem dX6_heat_22 : decode cX6_heat 22 = .ok (.ireturn, 1) := by decide +kernel
theorem dX6_heat_23 : decode cX6_heat 23 = .ok (.aload_n 0, 1) := by decide +kernel
theorem dX6_heat_24 : decode cX6_heat 24 = .ok (.getfield 86, 3) := by decide +kernel
theorem dX6_heat_27 : decode cX6_heat 27 = .ok (.istore_n 2, 1) := by decide +kernel
theorem dX6_heat_28 : decode cX6_heat 28 = .ok (.aload_n 0, 1) := by decide +kernel
theorem dX6_heat_29 : decode cX6_heat 29 = .ok (.iload_n 1, 1) := by decide +kernel
theorem dX6_heat_30 : decode cX6_heat 30 = .ok (.putfield 86, 3) := by decide +kernel
theorem dX6_heat_33 : decode cX6_heat 33 = .ok (.iload_n 2, 1) := by decide +kernel
theorem dX6_heat_34 : decode cX6_heat 34 = .ok (.ireturn, 1) := by decide +kernel
set_option maxRecDepth 20000 in
theorem ggX6_wet_X6_isDigit : GoodIn wsX6_wet wsX6_isDigit := goodIn_r _ [6, 7, 8, 5, 9] (by decide +kernel) (by decide +kernel)
set_option maxRecDepth 20000 in
theorem gX6_wet_X6_isDigit : GoodIn wsX6_wet (va_wsS RX6 141 yX6_isDigit wsX6_isDigit) := goodIn_app (goodIn_of _ (by decide +kernel)) ggX6_wet_X6_isDigit
theorem dX6_wet_0 : decode cX6_wet 0 = .ok (.iload_n 1, 1) := by decide +kernel
theorem dX6_wet_1 : decode cX6_wet 1 = .ok (.invokestatic 141, 3) := by decide +kernel
theorem dX6_wet_4 : decode cX6_wet 4 = .ok (.ifCond .ne 6, 3) := by decide +kernel
theorem dX6_wet_7 : decode cX6_wet 7 = .ok (.bipush (-2), 2) := by decide +kernel
theorem dX6_wet_9 : decode cX6_wet 9 = .ok (.ireturn, 1) := by decide +kernel
theorem dX6_wet_10 : decode cX6_wet 10 = .ok (.aload_n 0, 1) := by decide +kernel
theorem dX6_wet_11 : decode cX6_wet 11 = .ok (.getfield 56, 3) := by decide +kernel
theorem dX6_wet_14 : decode cX6_wet 14 = .ok (.ifCond .ne 6, 3) := by decide +kernel
theorem dX6_wet_17 : decode cX6_wet 17 = .ok (.bipush (-3), 2) := by decide +kernel
theorem dX6_wet_19 : decode cX6_wet 19 = .ok (.ireturn, 1) := by decide +kernel
theorem dX6_wet_20 : decode cX6_wet 20 = .ok (.aload_n 0, 1) := by decide +kernel
theorem dX6_wet_21 : decode cX6_wet 21 = .ok (.getfield 92, 3) := by decide +kernel
theorem dX6_wet_24 : decode cX6_wet 24 = .ok (.istore_n 2, 1) := by decide +kernel
theorem dX6_wet_25 : decode cX6_wet 25 = .ok (.aload_n 0, 1) := by decide +kernel
theorem dX6_wet_26 : decode cX6_wet 26 = .ok (.iload_n 1, 1) := by decide +kernel
theorem dX6_wet_27 : decode cX6_wet 27 = .ok (.putfield 92, 3) := by decide +kernel
theorem dX6_wet_30 : decode cX6_wet 30 = .ok (.iload_n 2, 1) := by decide +kernel
theorem dX6_wet_31 : decode cX6_wet 31 = .ok (.ireturn, 1) := by decide +kernel
set_option maxRecDepth 20000 in
theorem ggX6_paste_X6_isLayer : GoodIn wsX6_paste wsX6_isLayer := goodIn_r _ [6, 7, 14, 15, 16, 17, 18, 19, 20, 21, 22, 23, 24, 25, 26, 27, 28, 29, 30, 31, 32, 33, 34, 35, 36, 37, 38, 39] (by decide +kernel) (by decide +kernel)
set_option maxRecDepth 20000 in
theorem gX6_paste_X6_isLayer : GoodIn wsX6_paste (wsV RX6 131 RX6 yX6_isLayer wsX6_isLayer) := goodIn_app (goodIn_of _ (by decide +kernel)) ggX6_paste_X6_isLayer
set_option maxRecDepth 20000 in
theorem ggX6_paste_X6_isDigit : GoodIn wsX6_paste wsX6_isDigit := goodIn_r _ [10, 11, 12, 5, 13] (by decide +kernel) (by decide +kernel)
set_option maxRecDepth 20000 in
theorem gX6_paste_X6_isDigit : GoodIn wsX6_paste (va_wsS RX6 141 yX6_isDigit wsX6_isDigit) := goodIn_app (goodIn_of _ (by decide +kernel)) ggX6_paste_X6_isDigit
theorem dX6_paste_0 : decode cX6_paste 0 = .ok (.aload_n 0, 1) := by decide +kernel
theorem dX6_paste_1 : decode cX6_paste 1 = .ok (.iload_n 1, 1) := by decide +kernel
theorem dX6_paste_2 : decode cX6_paste 2 = .ok (.invokevirtual 131, 3) := by decide +kernel
theorem dX6_paste_5 : decode cX6_paste 5 = .ok (.ifCond .ne 5, 3) := by decide +kernel
theorem dX6_paste_8 : decode cX6_paste 8 = .ok (.iconst (-1), 1) := by decide +kernel
theorem dX6_paste_9 : decode cX6_paste 9 = .ok (.ireturn, 1) := by decide +kernel
theorem dX6_paste_10 : decode cX6_paste 10 = .ok (.iload_n 2, 1) := by decide +kernel
theorem dX6_paste_11 : decode cX6_paste 11 = .ok (.invokestatic 141, 3) := by decide +kernel
theorem dX6_paste_14 : decode cX6_paste 14 = .ok (.ifCond .ne 6, 3) := by decide +kernel
theorem dX6_paste_17 : decode cX6_paste 17 = .ok (.bipush (-2), 2) := by decide +kernel
theorem dX6_paste_19 : decode cX6_paste 19 = .ok (.ireturn, 1) := by decide +kernel
theorem dX6_paste_20 : decode cX6_paste 20 = .ok (.aload_n 0, 1) := by decide +kernel
theorem dX6_paste_21 : decode cX6_paste 21 = .ok (.getfield 22, 3) := by decide +kernel
theorem dX6_paste_24 : decode cX6_paste 24 = .ok (.iload_n 1, 1) := by decide +kernel
theorem dX6_paste_25 : decode cX6_paste 25 = .ok (.iaload, 1) := by decide +kernel
theorem dX6_paste_26 : decode cX6_paste 26 = .ok (.istore_n 3, 1) := by decide +kernel
theorem dX6_paste_27 : decode cX6_paste 27 = .ok (.aload_n 0, 1) := by decide +kernel
theorem dX6_paste_28 : decode cX6_paste 28 = .ok (.getfield 22, 3) := by decide +kernel
theorem dX6_paste_31 : decode cX6_paste 31 = .ok (.iload_n 1, 1) := by decide +kernel
theorem dX6_paste_32 : decode cX6_paste 32 = .ok (.iload_n 2, 1) := by decide +kernel
theorem dX6_paste_33 : decode cX6_paste 33 = .ok (.iastore, 1) := by decide +kernel
theorem dX6_paste_34 : decode cX6_paste 34 = .ok (.iload_n 3, 1) := by decide +kernel
theorem dX6_paste_35 : decode cX6_paste 35 = .ok (.ireturn, 1) := by decide +kernel
set_option maxRecDepth 20000 in
theorem ggX6_heard_X6_heardNow : GoodIn wsX6_heard wsX6_heardNow := goodIn_r _ [6, 7, 8, 9, 10, 11, 5, 12, 1, 13, 14, 15, 16, 17, 18, 19, 20, 21, 22, 23, 24, 25, 26, 27, 28, 29, 30, 31, 32, 33, 34, 35, 36, 37, 38, 39, 40, 41, 42, 43, 44, 45, 46, 47, 48, 49, 50, 51, 52, 53, 54, 55, 56] (by decide +kernel) (by decide +kernel)
set_option maxRecDepth 20000 in
theorem gX6_heard_X6_heardNow : GoodIn wsX6_heard (wsV RX6 138 RX6 yX6_heardNow wsX6_heardNow) := goodIn_app (goodIn_of _ (by decide +kernel)) ggX6_heard_X6_heardNow
theorem dX6_heard_0 : decode cX6_heard 0 = .ok (.aload_n 0, 1) := by decide +kernel
theorem dX6_heard_1 : decode cX6_heard 1 = .ok (.getfield 56, 3) := by decide +kernel
theorem dX6_heard_4 : decode cX6_heard 4 = .ok (.ifCond .ne 8, 3) := by decide +kernel
theorem dX6_heard_7 : decode cX6_heard 7 = .ok (.bipush (-3), 2) := by decide +kernel
theorem dX6_heard_9 : decode cX6_heard 9 = .ok (.goto 7, 3) := by decide +kernel
theorem dX6_heard_12 : decode cX6_heard 12 = .ok (.aload_n 0, 1) := by decide +kernel
theorem dX6_heard_13 : decode cX6_heard 13 = .ok (.invokevirtual 138, 3) := by decide +kernel
theorem dX6_heard_16 : decode cX6_heard 16 = .ok (.ireturn, 1) := by decide +kernel
set_option maxRecDepth 20000 in
theorem ggX6_counsel_X6_within : GoodIn wsX6_counsel wsX6_within := goodIn_r _ [5] (by decide +kernel) (by decide +kernel)
set_option maxRecDepth 20000 in
theorem gX6_counsel_X6_within : GoodIn wsX6_counsel (va_wsS RX6 52 yX6_within wsX6_within) := goodIn_app (goodIn_of _ (by decide +kernel)) ggX6_counsel_X6_within
set_option maxRecDepth 20000 in
theorem ggX6_counsel_X6_isDigit : GoodIn wsX6_counsel wsX6_isDigit := goodIn_r _ [8, 2, 3, 4, 5] (by decide +kernel) (by decide +kernel)
set_option maxRecDepth 20000 in
theorem gX6_counsel_X6_isDigit : GoodIn wsX6_counsel (va_wsS RX6 141 yX6_isDigit wsX6_isDigit) := goodIn_app (goodIn_of _ (by decide +kernel)) ggX6_counsel_X6_isDigit
set_option maxRecDepth 20000 in
theorem ggX6_counsel_X6_orderAsIs : GoodIn wsX6_counsel wsX6_orderAsIs := goodIn_r _ [12, 1, 13, 40, 41, 42, 43, 44, 45, 46, 47, 48, 49, 50, 51, 52, 53, 54, 55, 56, 57, 58, 59, 60, 61, 62, 63, 64, 65] (by decide +kernel) (by decide +kernel)
set_option maxRecDepth 20000 in
theorem gX6_counsel_X6_orderAsIs : GoodIn wsX6_counsel (wsV RX6 128 RX6 yX6_orderAsIs wsX6_orderAsIs) := goodIn_app (goodIn_of _ (by decide +kernel)) ggX6_counsel_X6_orderAsIs
set_option maxRecDepth 20000 in
theorem ggX6_counsel_X6_counselBy : GoodIn wsX6_counsel wsX6_counselBy := goodIn_r _ [17, 1, 13, 18, 19, 20, 21, 4, 22, 23, 24, 25, 26, 27, 28, 29, 30, 31, 32, 33, 34, 35, 36, 37, 38, 39, 40, 41, 42, 43, 44, 45, 46, 47, 48, 49, 50, 51, 52, 53, 54, 55, 56, 57, 58, 59, 60, 61, 62, 63, 64, 65] (by decide +kernel) (by decide +kernel)
set_option maxRecDepth 20000 in
theorem gX6_counsel_X6_counselBy : GoodIn wsX6_counsel (wsV RX6 144 RX6 yX6_counselBy wsX6_counselBy) := goodIn_app (goodIn_of _ (by decide +kernel)) ggX6_counsel_X6_counselBy
theorem dX6_counsel_0 : decode cX6_counsel 0 = .ok (.iload_n 1, 1) := by decide +kernel
theorem dX6_counsel_1 : decode cX6_counsel 1 = .ok (.iconst 0, 1) := by decide +kernel
theorem dX6_counsel_2 : decode cX6_counsel 2 = .ok (.bipush 20, 2) := by decide +kernel
theorem dX6_counsel_4 : decode cX6_counsel 4 = .ok (.invokestatic 52, 3) := by decide +kernel
theorem dX6_counsel_7 : decode cX6_counsel 7 = .ok (.ifCond .eq 10, 3) := by decide +kernel
theorem dX6_counsel_10 : decode cX6_counsel 10 = .ok (.iload_n 2, 1) := by decide +kernel
theorem dX6_counsel_11 : decode cX6_counsel 11 = .ok (.invokestatic 141, 3) := by decide +kernel
theorem dX6_counsel_14 : decode cX6_counsel 14 = .ok (.ifCond .ne 6, 3) := by decide +kernel
theorem dX6_counsel_17 : decode cX6_counsel 17 = .ok (.bipush (-2), 2) := by decide +kernel
theorem dX6_counsel_19 : decode cX6_counsel 19 = .ok (.ireturn, 1) := by decide +kernel
theorem dX6_counsel_20 : decode cX6_counsel 20 = .ok (.aload_n 0, 1) := by decide +kernel
theorem dX6_counsel_21 : decode cX6_counsel 21 = .ok (.getfield 56, 3) := by decide +kernel
theorem dX6_counsel_24 : decode cX6_counsel 24 = .ok (.ifCond .ne 6, 3) := by decide +kernel
theorem dX6_counsel_27 : decode cX6_counsel 27 = .ok (.bipush (-3), 2) := by decide +kernel
theorem dX6_counsel_29 : decode cX6_counsel 29 = .ok (.ireturn, 1) := by decide +kernel
theorem dX6_counsel_30 : decode cX6_counsel 30 = .ok (.aload_n 0, 1) := by decide +kernel
theorem dX6_counsel_31 : decode cX6_counsel 31 = .ok (.invokevirtual 128, 3) := by decide +kernel
theorem dX6_counsel_34 : decode cX6_counsel 34 = .ok (.aload_n 0, 1) := by decide +kernel
theorem dX6_counsel_35 : decode cX6_counsel 35 = .ok (.iload_n 1, 1) := by decide +kernel
theorem dX6_counsel_36 : decode cX6_counsel 36 = .ok (.iload_n 2, 1) := by decide +kernel
theorem dX6_counsel_37 : decode cX6_counsel 37 = .ok (.iconst 0, 1) := by decide +kernel
theorem dX6_counsel_38 : decode cX6_counsel 38 = .ok (.invokevirtual 144, 3) := by decide +kernel
theorem dX6_counsel_41 : decode cX6_counsel 41 = .ok (.ireturn, 1) := by decide +kernel
set_option maxRecDepth 20000 in
theorem ggX6_clash_X6_within : GoodIn wsX6_clash wsX6_within := goodIn_r _ [5] (by decide +kernel) (by decide +kernel)
set_option maxRecDepth 20000 in
theorem gX6_clash_X6_within : GoodIn wsX6_clash (va_wsS RX6 52 yX6_within wsX6_within) := goodIn_app (goodIn_of _ (by decide +kernel)) ggX6_clash_X6_within
set_option maxRecDepth 20000 in
theorem ggX6_clash_X6_heardNow : GoodIn wsX6_clash wsX6_heardNow := goodIn_r _ [9, 10, 11, 12, 13, 14, 4, 15, 1, 16, 17, 18, 19, 20, 21, 22, 23, 24, 25, 26, 27, 28, 29, 30, 31, 32, 33, 42, 43, 44, 45, 46, 47, 48, 49, 50, 51, 52, 53, 54, 55, 56, 57, 58, 59, 60, 61, 62, 63, 64, 65, 66, 67] (by decide +kernel) (by decide +kernel)
set_option maxRecDepth 20000 in
theorem gX6_clash_X6_heardNow : GoodIn wsX6_clash (wsV RX6 138 RX6 yX6_heardNow wsX6_heardNow) := goodIn_app (goodIn_of _ (by decide +kernel)) ggX6_clash_X6_heardNow
set_option maxRecDepth 20000 in
theorem ggX6_clash_X6_size : GoodIn wsX6_clash wsX6_size := goodIn_r _ [36] (by decide +kernel) (by decide +kernel)
set_option maxRecDepth 20000 in
theorem gX6_clash_X6_size : GoodIn wsX6_clash (va_wsS RX6 147 yX6_size wsX6_size) := goodIn_app (goodIn_of _ (by decide +kernel)) ggX6_clash_X6_size
set_option maxRecDepth 20000 in
theorem ggX6_clash_X6_givers : GoodIn wsX6_clash wsX6_givers := goodIn_r _ [40, 1, 41, 26, 27, 4, 28, 42, 43, 44, 45, 46, 47, 48, 49, 50, 51, 52, 53, 54, 55, 56, 57, 58, 59, 60, 61, 62, 63, 64, 65, 66, 67] (by decide +kernel) (by decide +kernel)
set_option maxRecDepth 20000 in
theorem gX6_clash_X6_givers : GoodIn wsX6_clash (wsV RX6 124 RX6 yX6_givers wsX6_givers) := goodIn_app (goodIn_of _ (by decide +kernel)) ggX6_clash_X6_givers
theorem dX6_clash_0 : decode cX6_clash 0 = .ok (.iload_n 1, 1) := by decide +kernel
theorem dX6_clash_1 : decode cX6_clash 1 = .ok (.iconst 0, 1) := by decide +kernel
theorem dX6_clash_2 : decode cX6_clash 2 = .ok (.iconst 1, 1) := by decide +kernel
theorem dX6_clash_3 : decode cX6_clash 3 = .ok (.invokestatic 52, 3) := by decide +kernel
theorem dX6_clash_6 : decode cX6_clash 6 = .ok (.ifCond .ne 6, 3) := by decide +kernel
theorem dX6_clash_9 : decode cX6_clash 9 = .ok (.bipush (-2), 2) := by decide +kernel
theorem dX6_clash_11 : decode cX6_clash 11 = .ok (.ireturn, 1) := by decide +kernel
theorem dX6_clash_12 : decode cX6_clash 12 = .ok (.aload_n 0, 1) := by decide +kernel
theorem dX6_clash_13 : decode cX6_clash 13 = .ok (.getfield 56, 3) := by decide +kernel
theorem dX6_clash_16 : decode cX6_clash 16 = .ok (.ifCond .ne 6, 3) := by decide +kernel
theorem dX6_clash_19 : decode cX6_clash 19 = .ok (.bipush (-3), 2) := by decide +kernel
theorem dX6_clash_21 : decode cX6_clash 21 = .ok (.ireturn, 1) := by decide +kernel
theorem dX6_clash_22 : decode cX6_clash 22 = .ok (.aload_n 0, 1) := by decide +kernel
theorem dX6_clash_23 : decode cX6_clash 23 = .ok (.invokevirtual 138, 3) := by decide +kernel
theorem dX6_clash_26 : decode cX6_clash 26 = .ok (.istore_n 2, 1) := by decide +kernel
theorem dX6_clash_27 : decode cX6_clash 27 = .ok (.iload_n 2, 1) := by decide +kernel
theorem dX6_clash_28 : decode cX6_clash 28 = .ok (.invokestatic 147, 3) := by decide +kernel
theorem dX6_clash_31 : decode cX6_clash 31 = .ok (.istore_n 3, 1) := by decide +kernel
theorem dX6_clash_32 : decode cX6_clash 32 = .ok (.iconst 0, 1) := by decide +kernel
theorem dX6_clash_33 : decode cX6_clash 33 = .ok (.istore 4, 2) := by decide +kernel
theorem dX6_clash_35 : decode cX6_clash 35 = .ok (.iconst 0, 1) := by decide +kernel
theorem dX6_clash_36 : decode cX6_clash 36 = .ok (.istore 5, 2) := by decide +kernel
theorem dX6_clash_38 : decode cX6_clash 38 = .ok (.iconst 0, 1) := by decide +kernel
theorem dX6_clash_39 : decode cX6_clash 39 = .ok (.istore 6, 2) := by decide +kernel
theorem dX6_clash_41 : decode cX6_clash 41 = .ok (.iload 6, 2) := by decide +kernel
theorem dX6_clash_43 : decode cX6_clash 43 = .ok (.bipush 9, 2) := by decide +kernel
theorem dX6_clash_45 : decode cX6_clash 45 = .ok (.if_icmp .gt 48, 3) := by decide +kernel
theorem dX6_clash_48 : decode cX6_clash 48 = .ok (.aload_n 0, 1) := by decide +kernel
theorem dX6_clash_49 : decode cX6_clash 49 = .ok (.iload_n 2, 1) := by decide +kernel
theorem dX6_clash_50 : decode cX6_clash 50 = .ok (.iload 6, 2) := by decide +kernel
theorem dX6_clash_52 : decode cX6_clash 52 = .ok (.invokevirtual 124, 3) := by decide +kernel
theorem dX6_clash_55 : decode cX6_clash 55 = .ok (.istore 7, 2) := by decide +kernel
theorem dX6_clash_57 : decode cX6_clash 57 = .ok (.iload 4, 2) := by decide +kernel
theorem dX6_clash_59 : decode cX6_clash 59 = .ok (.iload 7, 2) := by decide +kernel
theorem dX6_clash_61 : decode cX6_clash 61 = .ok (.iload 7, 2) := by decide +kernel
theorem dX6_clash_63 : decode cX6_clash 63 = .ok (.iconst 1, 1) := by decide +kernel
theorem dX6_clash_64 : decode cX6_clash 64 = .ok (.isub, 1) := by decide +kernel
theorem dX6_clash_65 : decode cX6_clash 65 = .ok (.imul, 1) := by decide +kernel
theorem dX6_clash_66 : decode cX6_clash 66 = .ok (.iconst 2, 1) := by decide +kernel
theorem dX6_clash_67 : decode cX6_clash 67 = .ok (.idiv, 1) := by decide +kernel
theorem dX6_clash_68 : decode cX6_clash 68 = .ok (.iadd, 1) := by decide +kernel
theorem dX6_clash_69 : decode cX6_clash 69 = .ok (.istore 4, 2) := by decide +kernel
theorem dX6_clash_71 : decode cX6_clash 71 = .ok (.iload 7, 2) := by decide +kernel
theorem dX6_clash_73 : decode cX6_clash 73 = .ok (.iload 5, 2) := by decide +kernel
theorem dX6_clash_75 : decode cX6_clash 75 = .ok (.if_icmp .le 8, 3) := by decide +kernel
theorem dX6_clash_78 : decode cX6_clash 78 = .ok (.iload 7, 2) := by decide +kernel
theorem dX6_clash_80 : decode cX6_clash 80 = .ok (.goto 5, 3) := by decide +kernel
theorem dX6_clash_83 : decode cX6_clash 83 = .ok (.iload 5, 2) := by decide +kernel
theorem dX6_clash_85 : decode cX6_clash 85 = .ok (.istore 5, 2) := by decide +kernel
theorem dX6_clash_87 : decode cX6_clash 87 = .ok (.iinc 6 1, 3) := by decide +kernel
theorem dX6_clash_90 : decode cX6_clash 90 = .ok (.goto (-49), 3) := by decide +kernel
theorem dX6_clash_93 : decode cX6_clash 93 = .ok (.iload_n 1, 1) := by decide +kernel
theorem dX6_clash_94 : decode cX6_clash 94 = .ok (.ifCond .ne 16, 3) := by decide +kernel
theorem dX6_clash_97 : decode cX6_clash 97 = .ok (.iload_n 3, 1) := by decide +kernel
theorem dX6_clash_98 : decode cX6_clash 98 = .ok (.iload_n 3, 1) := by decide +kernel
theorem dX6_clash_99 : decode cX6_clash 99 = .ok (.iconst 1, 1) := by decide +kernel
theorem dX6_clash_100 : decode cX6_clash 100 = .ok (.isub, 1) := by decide +kernel
theorem dX6_clash_101 : decode cX6_clash 101 = .ok (.imul, 1) := by decide +kernel
theorem dX6_clash_102 : decode cX6_clash 102 = .ok (.iconst 2, 1) := by decide +kernel
theorem dX6_clash_103 : decode cX6_clash 103 = .ok (.idiv, 1) := by decide +kernel
theorem dX6_clash_104 : decode cX6_clash 104 = .ok (.iload 4, 2) := by decide +kernel
theorem dX6_clash_106 : decode cX6_clash 106 = .ok (.isub, 1) := by decide +kernel
theorem dX6_clash_107 : decode cX6_clash 107 = .ok (.goto 7, 3) := by decide +kernel
theorem dX6_clash_110 : decode cX6_clash 110 = .ok (.iload_n 3, 1) := by decide +kernel
theorem dX6_clash_111 : decode cX6_clash 111 = .ok (.iload 5, 2) := by decide +kernel
theorem dX6_clash_113 : decode cX6_clash 113 = .ok (.isub, 1) := by decide +kernel
theorem dX6_clash_114 : decode cX6_clash 114 = .ok (.ireturn, 1) := by decide +kernel
theorem dX6_putOn_0 : decode cX6_putOn 0 = .ok (.aload_n 0, 1) := by decide +kernel
theorem dX6_putOn_1 : decode cX6_putOn 1 = .ok (.getfield 56, 3) := by decide +kernel
theorem dX6_putOn_4 : decode cX6_putOn 4 = .ok (.istore 4, 2) := by decide +kernel
theorem dX6_putOn_6 : decode cX6_putOn 6 = .ok (.iload 4, 2) := by decide +kernel
theorem dX6_putOn_8 : decode cX6_putOn 8 = .ok (.ifCond .le 57, 3) := by decide +kernel
theorem dX6_putOn_11 : decode cX6_putOn 11 = .ok (.aload_n 0, 1) := by decide +kernel
theorem dX6_putOn_12 : decode cX6_putOn 12 = .ok (.getfield 19, 3) := by decide +kernel
theorem dX6_putOn_15 : decode cX6_putOn 15 = .ok (.iload 4, 2) := by decide +kernel
theorem dX6_putOn_17 : decode cX6_putOn 17 = .ok (.aload_n 0, 1) := by decide +kernel
theorem dX6_putOn_18 : decode cX6_putOn 18 = .ok (.getfield 19, 3) := by decide +kernel
theorem dX6_putOn_21 : decode cX6_putOn 21 = .ok (.iload 4, 2) := by decide +kernel
theorem dX6_putOn_23 : decode cX6_putOn 23 = .ok (.iconst 1, 1) := by decide +kernel
theorem dX6_putOn_24 : decode cX6_putOn 24 = .ok (.isub, 1) := by decide +kernel
theorem dX6_putOn_25 : decode cX6_putOn 25 = .ok (.iaload, 1) := by decide +kernel
theorem dX6_putOn_26 : decode cX6_putOn 26 = .ok (.iastore, 1) := by decide +kernel
theorem dX6_putOn_27 : decode cX6_putOn 27 = .ok (.aload_n 0, 1) := by decide +kernel
theorem dX6_putOn_28 : decode cX6_putOn 28 = .ok (.getfield 22, 3) := by decide +kernel
theorem dX6_putOn_31 : decode cX6_putOn 31 = .ok (.iload 4, 2) := by decide +kernel
theorem dX6_putOn_33 : decode cX6_putOn 33 = .ok (.aload_n 0, 1) := by decide +kernel
theorem dX6_putOn_34 : decode cX6_putOn 34 = .ok (.getfield 22, 3) := by decide +kernel
theorem dX6_putOn_37 : decode cX6_putOn 37 = .ok (.iload 4, 2) := by decide +kernel
theorem dX6_putOn_39 : decode cX6_putOn 39 = .ok (.iconst 1, 1) := by decide +kernel
theorem dX6_putOn_40 : decode cX6_putOn 40 = .ok (.isub, 1) := by decide +kernel
theorem dX6_putOn_41 : decode cX6_putOn 41 = .ok (.iaload, 1) := by decide +kernel
theorem dX6_putOn_42 : decode cX6_putOn 42 = .ok (.iastore, 1) := by decide +kernel
theorem dX6_putOn_43 : decode cX6_putOn 43 = .ok (.aload_n 0, 1) := by decide +kernel
theorem dX6_putOn_44 : decode cX6_putOn 44 = .ok (.getfield 25, 3) := by decide +kernel
theorem dX6_putOn_47 : decode cX6_putOn 47 = .ok (.iload 4, 2) := by decide +kernel
theorem dX6_putOn_49 : decode cX6_putOn 49 = .ok (.aload_n 0, 1) := by decide +kernel
theorem dX6_putOn_50 : decode cX6_putOn 50 = .ok (.getfield 25, 3) := by decide +kernel
theorem dX6_putOn_53 : decode cX6_putOn 53 = .ok (.iload 4, 2) := by decide +kernel
theorem dX6_putOn_55 : decode cX6_putOn 55 = .ok (.iconst 1, 1) := by decide +kernel
theorem dX6_putOn_56 : decode cX6_putOn 56 = .ok (.isub, 1) := by decide +kernel
theorem dX6_putOn_57 : decode cX6_putOn 57 = .ok (.iaload, 1) := by decide +kernel
theorem dX6_putOn_58 : decode cX6_putOn 58 = .ok (.iastore, 1) := by decide +kernel
theorem dX6_putOn_59 : decode cX6_putOn 59 = .ok (.iinc 4 (-1), 3) := by decide +kernel
theorem dX6_putOn_62 : decode cX6_putOn 62 = .ok (.goto (-56), 3) := by decide +kernel
theorem dX6_putOn_65 : decode cX6_putOn 65 = .ok (.aload_n 0, 1) := by decide +kernel
theorem dX6_putOn_66 : decode cX6_putOn 66 = .ok (.getfield 19, 3) := by decide +kernel
theorem dX6_putOn_69 : decode cX6_putOn 69 = .ok (.iconst 0, 1) := by decide +kernel
theorem dX6_putOn_70 : decode cX6_putOn 70 = .ok (.iload_n 1, 1) := by decide +kernel
theorem dX6_putOn_71 : decode cX6_putOn 71 = .ok (.iastore, 1) := by decide +kernel
theorem dX6_putOn_72 : decode cX6_putOn 72 = .ok (.aload_n 0, 1) := by decide +kernel
theorem dX6_putOn_73 : decode cX6_putOn 73 = .ok (.getfield 22, 3) := by decide +kernel
theorem dX6_putOn_76 : decode cX6_putOn 76 = .ok (.iconst 0, 1) := by decide +kernel
theorem dX6_putOn_77 : decode cX6_putOn 77 = .ok (.iload_n 2, 1) := by decide +kernel
theorem dX6_putOn_78 : decode cX6_putOn 78 = .ok (.iastore, 1) := by decide +kernel
theorem dX6_putOn_79 : decode cX6_putOn 79 = .ok (.aload_n 0, 1) := by decide +kernel
theorem dX6_putOn_80 : decode cX6_putOn 80 = .ok (.getfield 25, 3) := by decide +kernel
theorem dX6_putOn_83 : decode cX6_putOn 83 = .ok (.iconst 0, 1) := by decide +kernel
theorem dX6_putOn_84 : decode cX6_putOn 84 = .ok (.iload_n 3, 1) := by decide +kernel
theorem dX6_putOn_85 : decode cX6_putOn 85 = .ok (.iastore, 1) := by decide +kernel
theorem dX6_putOn_86 : decode cX6_putOn 86 = .ok (.aload_n 0, 1) := by decide +kernel
theorem dX6_putOn_87 : decode cX6_putOn 87 = .ok (.dup, 1) := by decide +kernel
theorem dX6_putOn_88 : decode cX6_putOn 88 = .ok (.getfield 56, 3) := by decide +kernel
theorem dX6_putOn_91 : decode cX6_putOn 91 = .ok (.iconst 1, 1) := by decide +kernel
theorem dX6_putOn_92 : decode cX6_putOn 92 = .ok (.iadd, 1) := by decide +kernel
theorem dX6_putOn_93 : decode cX6_putOn 93 = .ok (.putfield 56, 3) := by decide +kernel
theorem dX6_putOn_96 : decode cX6_putOn 96 = .ok (.return_, 1) := by decide +kernel
theorem dX6_takeOff_0 : decode cX6_takeOff 0 = .ok (.aload_n 0, 1) := by decide +kernel
theorem dX6_takeOff_1 : decode cX6_takeOff 1 = .ok (.getfield 25, 3) := by decide +kernel
theorem dX6_takeOff_4 : decode cX6_takeOff 4 = .ok (.iconst 0, 1) := by decide +kernel
theorem dX6_takeOff_5 : decode cX6_takeOff 5 = .ok (.iaload, 1) := by decide +kernel
theorem dX6_takeOff_6 : decode cX6_takeOff 6 = .ok (.istore_n 1, 1) := by decide +kernel
theorem dX6_takeOff_7 : decode cX6_takeOff 7 = .ok (.aload_n 0, 1) := by decide +kernel
theorem dX6_takeOff_8 : decode cX6_takeOff 8 = .ok (.dup, 1) := by decide +kernel
theorem dX6_takeOff_9 : decode cX6_takeOff 9 = .ok (.getfield 56, 3) := by decide +kernel
theorem dX6_takeOff_12 : decode cX6_takeOff 12 = .ok (.iconst 1, 1) := by decide +kernel
theorem dX6_takeOff_13 : decode cX6_takeOff 13 = .ok (.isub, 1) := by decide +kernel
theorem dX6_takeOff_14 : decode cX6_takeOff 14 = .ok (.putfield 56, 3) := by decide +kernel
theorem dX6_takeOff_17 : decode cX6_takeOff 17 = .ok (.iconst 0, 1) := by decide +kernel
theorem dX6_takeOff_18 : decode cX6_takeOff 18 = .ok (.istore_n 2, 1) := by decide +kernel
theorem dX6_takeOff_19 : decode cX6_takeOff 19 = .ok (.iload_n 2, 1) := by decide +kernel
theorem dX6_takeOff_20 : decode cX6_takeOff 20 = .ok (.aload_n 0, 1) := by decide +kernel
theorem dX6_takeOff_21 : decode cX6_takeOff 21 = .ok (.getfield 56, 3) := by decide +kernel
theorem dX6_takeOff_24 : decode cX6_takeOff 24 = .ok (.if_icmp .ge 51, 3) := by decide +kernel
theorem dX6_takeOff_27 : decode cX6_takeOff 27 = .ok (.aload_n 0, 1) := by decide +kernel
theorem dX6_takeOff_28 : decode cX6_takeOff 28 = .ok (.getfield 19, 3) := by decide +kernel
theorem dX6_takeOff_31 : decode cX6_takeOff 31 = .ok (.iload_n 2, 1) := by decide +kernel
theorem dX6_takeOff_32 : decode cX6_takeOff 32 = .ok (.aload_n 0, 1) := by decide +kernel
theorem dX6_takeOff_33 : decode cX6_takeOff 33 = .ok (.getfield 19, 3) := by decide +kernel
theorem dX6_takeOff_36 : decode cX6_takeOff 36 = .ok (.iload_n 2, 1) := by decide +kernel
theorem dX6_takeOff_37 : decode cX6_takeOff 37 = .ok (.iconst 1, 1) := by decide +kernel
theorem dX6_takeOff_38 : decode cX6_takeOff 38 = .ok (.iadd, 1) := by decide +kernel
theorem dX6_takeOff_39 : decode cX6_takeOff 39 = .ok (.iaload, 1) := by decide +kernel
theorem dX6_takeOff_40 : decode cX6_takeOff 40 = .ok (.iastore, 1) := by decide +kernel
theorem dX6_takeOff_41 : decode cX6_takeOff 41 = .ok (.aload_n 0, 1) := by decide +kernel
theorem dX6_takeOff_42 : decode cX6_takeOff 42 = .ok (.getfield 22, 3) := by decide +kernel
theorem dX6_takeOff_45 : decode cX6_takeOff 45 = .ok (.iload_n 2, 1) := by decide +kernel
theorem dX6_takeOff_46 : decode cX6_takeOff 46 = .ok (.aload_n 0, 1) := by decide +kernel
theorem dX6_takeOff_47 : decode cX6_takeOff 47 = .ok (.getfield 22, 3) := by decide +kernel
theorem dX6_takeOff_50 : decode cX6_takeOff 50 = .ok (.iload_n 2, 1) := by decide +kernel
theorem dX6_takeOff_51 : decode cX6_takeOff 51 = .ok (.iconst 1, 1) := by decide +kernel
theorem dX6_takeOff_52 : decode cX6_takeOff 52 = .ok (.iadd, 1) := by decide +kernel
theorem dX6_takeOff_53 : decode cX6_takeOff 53 = .ok (.iaload, 1) := by decide +kernel
theorem dX6_takeOff_54 : decode cX6_takeOff 54 = .ok (.iastore, 1) := by decide +kernel
theorem dX6_takeOff_55 : decode cX6_takeOff 55 = .ok (.aload_n 0, 1) := by decide +kernel
theorem dX6_takeOff_56 : decode cX6_takeOff 56 = .ok (.getfield 25, 3) := by decide +kernel
theorem dX6_takeOff_59 : decode cX6_takeOff 59 = .ok (.iload_n 2, 1) := by decide +kernel
theorem dX6_takeOff_60 : decode cX6_takeOff 60 = .ok (.aload_n 0, 1) := by decide +kernel
theorem dX6_takeOff_61 : decode cX6_takeOff 61 = .ok (.getfield 25, 3) := by decide +kernel
theorem dX6_takeOff_64 : decode cX6_takeOff 64 = .ok (.iload_n 2, 1) := by decide +kernel
theorem dX6_takeOff_65 : decode cX6_takeOff 65 = .ok (.iconst 1, 1) := by decide +kernel
theorem dX6_takeOff_66 : decode cX6_takeOff 66 = .ok (.iadd, 1) := by decide +kernel
theorem dX6_takeOff_67 : decode cX6_takeOff 67 = .ok (.iaload, 1) := by decide +kernel
theorem dX6_takeOff_68 : decode cX6_takeOff 68 = .ok (.iastore, 1) := by decide +kernel
theorem dX6_takeOff_69 : decode cX6_takeOff 69 = .ok (.iinc 2 1, 3) := by decide +kernel
theorem dX6_takeOff_72 : decode cX6_takeOff 72 = .ok (.goto (-53), 3) := by decide +kernel
theorem dX6_takeOff_75 : decode cX6_takeOff 75 = .ok (.iload_n 1, 1) := by decide +kernel
theorem dX6_takeOff_76 : decode cX6_takeOff 76 = .ok (.ireturn, 1) := by decide +kernel
set_option maxRecDepth 20000 in
theorem ggX6_mayPeel_X6_liftedNow : GoodIn wsX6_mayPeel wsX6_liftedNow := goodIn_r _ [6, 7, 8, 9, 10, 11, 5, 12, 1, 13, 14, 15, 16, 17, 18, 19, 20, 21, 22, 23, 24, 25, 26, 27, 28, 29, 30, 31, 32, 33, 34, 35, 36, 37, 38, 39, 40, 41, 42, 43, 44, 45, 46, 47, 48, 49, 50, 51, 52] (by decide +kernel) (by decide +kernel)
set_option maxRecDepth 20000 in
theorem gX6_mayPeel_X6_liftedNow : GoodIn wsX6_mayPeel (wsV RX6 134 RX6 yX6_liftedNow wsX6_liftedNow) := goodIn_app (goodIn_of _ (by decide +kernel)) ggX6_mayPeel_X6_liftedNow
set_option maxRecDepth 20000 in
theorem ggX6_mayPeel_X6_isOf : GoodIn wsX6_mayPeel wsX6_isOf := goodIn_r _ [20] (by decide +kernel) (by decide +kernel)
set_option maxRecDepth 20000 in
theorem gX6_mayPeel_X6_isOf : GoodIn wsX6_mayPeel (va_wsS RX6 111 yX6_isOf wsX6_isOf) := goodIn_app (goodIn_of _ (by decide +kernel)) ggX6_mayPeel_X6_isOf
theorem dX6_mayPeel_0 : decode cX6_mayPeel 0 = .ok (.aload_n 0, 1) := by decide +kernel
theorem dX6_mayPeel_1 : decode cX6_mayPeel 1 = .ok (.getfield 56, 3) := by decide +kernel
theorem dX6_mayPeel_4 : decode cX6_mayPeel 4 = .ok (.iconst 1, 1) := by decide +kernel
theorem dX6_mayPeel_5 : decode cX6_mayPeel 5 = .ok (.if_icmp .le 18, 3) := by decide +kernel
theorem dX6_mayPeel_8 : decode cX6_mayPeel 8 = .ok (.aload_n 0, 1) := by decide +kernel
theorem dX6_mayPeel_9 : decode cX6_mayPeel 9 = .ok (.invokevirtual 134, 3) := by decide +kernel
theorem dX6_mayPeel_12 : decode cX6_mayPeel 12 = .ok (.iconst 0, 1) := by decide +kernel
theorem dX6_mayPeel_13 : decode cX6_mayPeel 13 = .ok (.invokestatic 111, 3) := by decide +kernel
theorem dX6_mayPeel_16 : decode cX6_mayPeel 16 = .ok (.ifCond .eq 7, 3) := by decide +kernel
theorem dX6_mayPeel_19 : decode cX6_mayPeel 19 = .ok (.iconst 1, 1) := by decide +kernel
theorem dX6_mayPeel_20 : decode cX6_mayPeel 20 = .ok (.goto 4, 3) := by decide +kernel
theorem dX6_mayPeel_23 : decode cX6_mayPeel 23 = .ok (.iconst 0, 1) := by decide +kernel
theorem dX6_mayPeel_24 : decode cX6_mayPeel 24 = .ok (.ireturn, 1) := by decide +kernel
set_option maxRecDepth 20000 in
theorem ggX6_putUp_X6_within : GoodIn wsX6_putUp wsX6_within := goodIn_r _ [5] (by decide +kernel) (by decide +kernel)
set_option maxRecDepth 20000 in
theorem gX6_putUp_X6_within : GoodIn wsX6_putUp (va_wsS RX6 52 yX6_within wsX6_within) := goodIn_app (goodIn_of _ (by decide +kernel)) ggX6_putUp_X6_within
set_option maxRecDepth 20000 in
theorem ggX6_putUp_X6_isDigit : GoodIn wsX6_putUp wsX6_isDigit := goodIn_r _ [8, 2, 3, 4, 5] (by decide +kernel) (by decide +kernel)
set_option maxRecDepth 20000 in
theorem gX6_putUp_X6_isDigit : GoodIn wsX6_putUp (va_wsS RX6 141 yX6_isDigit wsX6_isDigit) := goodIn_app (goodIn_of _ (by decide +kernel)) ggX6_putUp_X6_isDigit
set_option maxRecDepth 20000 in
theorem ggX6_putUp_X6_putOn : GoodIn wsX6_putUp wsX6_putOn := goodIn_r _ [12, 1, 13, 14, 15, 16, 17, 18, 19, 20, 21, 22, 23, 24, 25, 26, 27, 28, 29, 30, 31, 32, 33, 34, 35, 36, 37, 38, 39, 40, 41] (by decide +kernel) (by decide +kernel)
set_option maxRecDepth 20000 in
theorem gX6_putUp_X6_putOn : GoodIn wsX6_putUp (wsV RX6 150 RX6 yX6_putOn wsX6_putOn) := goodIn_app (goodIn_of _ (by decide +kernel)) ggX6_putUp_X6_putOn
theorem dX6_putUp_0 : decode cX6_putUp 0 = .ok (.iload_n 1, 1) := by decide +kernel
theorem dX6_putUp_1 : decode cX6_putUp 1 = .ok (.iconst 0, 1) := by decide +kernel
theorem dX6_putUp_2 : decode cX6_putUp 2 = .ok (.iconst 2, 1) := by decide +kernel
theorem dX6_putUp_3 : decode cX6_putUp 3 = .ok (.invokestatic 52, 3) := by decide +kernel
theorem dX6_putUp_6 : decode cX6_putUp 6 = .ok (.ifCond .eq 17, 3) := by decide +kernel
theorem dX6_putUp_9 : decode cX6_putUp 9 = .ok (.iload_n 2, 1) := by decide +kernel
theorem dX6_putUp_10 : decode cX6_putUp 10 = .ok (.invokestatic 141, 3) := by decide +kernel
theorem dX6_putUp_13 : decode cX6_putUp 13 = .ok (.ifCond .eq 10, 3) := by decide +kernel
theorem dX6_putUp_16 : decode cX6_putUp 16 = .ok (.iload_n 3, 1) := by decide +kernel
theorem dX6_putUp_17 : decode cX6_putUp 17 = .ok (.invokestatic 141, 3) := by decide +kernel
theorem dX6_putUp_20 : decode cX6_putUp 20 = .ok (.ifCond .ne 6, 3) := by decide +kernel
theorem dX6_putUp_23 : decode cX6_putUp 23 = .ok (.bipush (-2), 2) := by decide +kernel
theorem dX6_putUp_25 : decode cX6_putUp 25 = .ok (.ireturn, 1) := by decide +kernel
theorem dX6_putUp_26 : decode cX6_putUp 26 = .ok (.aload_n 0, 1) := by decide +kernel
theorem dX6_putUp_27 : decode cX6_putUp 27 = .ok (.getfield 56, 3) := by decide +kernel
theorem dX6_putUp_30 : decode cX6_putUp 30 = .ok (.ifCond .ne 6, 3) := by decide +kernel
theorem dX6_putUp_33 : decode cX6_putUp 33 = .ok (.bipush (-3), 2) := by decide +kernel
theorem dX6_putUp_35 : decode cX6_putUp 35 = .ok (.ireturn, 1) := by decide +kernel
theorem dX6_putUp_36 : decode cX6_putUp 36 = .ok (.aload_n 0, 1) := by decide +kernel
theorem dX6_putUp_37 : decode cX6_putUp 37 = .ok (.getfield 56, 3) := by decide +kernel
theorem dX6_putUp_40 : decode cX6_putUp 40 = .ok (.bipush 6, 2) := by decide +kernel
theorem dX6_putUp_42 : decode cX6_putUp 42 = .ok (.if_icmp .ne 6, 3) := by decide +kernel
theorem dX6_putUp_45 : decode cX6_putUp 45 = .ok (.bipush (-4), 2) := by decide +kernel
theorem dX6_putUp_47 : decode cX6_putUp 47 = .ok (.ireturn, 1) := by decide +kernel
theorem dX6_putUp_48 : decode cX6_putUp 48 = .ok (.aload_n 0, 1) := by decide +kernel
theorem dX6_putUp_49 : decode cX6_putUp 49 = .ok (.iload_n 1, 1) := by decide +kernel
theorem dX6_putUp_50 : decode cX6_putUp 50 = .ok (.iload_n 2, 1) := by decide +kernel
theorem dX6_putUp_51 : decode cX6_putUp 51 = .ok (.iload_n 3, 1) := by decide +kernel
theorem dX6_putUp_52 : decode cX6_putUp 52 = .ok (.invokevirtual 150, 3) := by decide +kernel
theorem dX6_putUp_55 : decode cX6_putUp 55 = .ok (.aload_n 0, 1) := by decide +kernel
theorem dX6_putUp_56 : decode cX6_putUp 56 = .ok (.getfield 56, 3) := by decide +kernel
theorem dX6_putUp_59 : decode cX6_putUp 59 = .ok (.ireturn, 1) := by decide +kernel
set_option maxRecDepth 20000 in
theorem ggX6_peel_X6_mayPeel : GoodIn wsX6_peel wsX6_mayPeel := goodIn_r _ [6, 1, 7, 8, 9, 5, 10, 11, 12, 13, 14, 15, 16, 17, 18, 19, 20, 21, 22, 23, 24, 25, 26, 27, 28, 29, 30, 36, 37, 38, 39, 40, 41, 42, 43, 44, 45, 46, 47, 48, 49, 50, 51, 52, 53, 54, 55, 56, 57, 58, 59, 60, 61] (by decide +kernel) (by decide +kernel)
set_option maxRecDepth 20000 in
theorem gX6_peel_X6_mayPeel : GoodIn wsX6_peel (wsV RX6 154 RX6 yX6_mayPeel wsX6_mayPeel) := goodIn_app (goodIn_of _ (by decide +kernel)) ggX6_peel_X6_mayPeel
set_option maxRecDepth 20000 in
theorem ggX6_peel_X6_takeOff : GoodIn wsX6_peel wsX6_takeOff := goodIn_r _ [34, 35, 1, 29, 30, 36, 37, 38, 39, 40, 41, 42, 43, 44, 45, 46, 47, 48, 49, 50, 51, 52, 53, 54, 55, 56, 57, 58, 59, 60, 61] (by decide +kernel) (by decide +kernel)
set_option maxRecDepth 20000 in
theorem gX6_peel_X6_takeOff : GoodIn wsX6_peel (wsV RX6 158 RX6 yX6_takeOff wsX6_takeOff) := goodIn_app (goodIn_of _ (by decide +kernel)) ggX6_peel_X6_takeOff
theorem dX6_peel_0 : decode cX6_peel 0 = .ok (.aload_n 0, 1) := by decide +kernel
theorem dX6_peel_1 : decode cX6_peel 1 = .ok (.getfield 56, 3) := by decide +kernel
theorem dX6_peel_4 : decode cX6_peel 4 = .ok (.ifCond .le 17, 3) := by decide +kernel
theorem dX6_peel_7 : decode cX6_peel 7 = .ok (.aload_n 0, 1) := by decide +kernel
theorem dX6_peel_8 : decode cX6_peel 8 = .ok (.invokevirtual 154, 3) := by decide +kernel
theorem dX6_peel_11 : decode cX6_peel 11 = .ok (.ifCond .eq 10, 3) := by decide +kernel
theorem dX6_peel_14 : decode cX6_peel 14 = .ok (.aload_n 0, 1) := by decide +kernel
theorem dX6_peel_15 : decode cX6_peel 15 = .ok (.invokevirtual 158, 3) := by decide +kernel
theorem dX6_peel_18 : decode cX6_peel 18 = .ok (.goto 5, 3) := by decide +kernel
theorem dX6_peel_21 : decode cX6_peel 21 = .ok (.bipush (-3), 2) := by decide +kernel
theorem dX6_peel_23 : decode cX6_peel 23 = .ok (.ireturn, 1) := by decide +kernel
theorem dX6_keep_0 : decode cX6_keep 0 = .ok (.aload_n 0, 1) := by decide +kernel
theorem dX6_keep_1 : decode cX6_keep 1 = .ok (.aload_n 0, 1) := by decide +kernel
theorem dX6_keep_2 : decode cX6_keep 2 = .ok (.getfield 56, 3) := by decide +kernel
theorem dX6_keep_5 : decode cX6_keep 5 = .ok (.putfield 161, 3) := by decide +kernel
theorem dX6_keep_8 : decode cX6_keep 8 = .ok (.aload_n 0, 1) := by decide +kernel
theorem dX6_keep_9 : decode cX6_keep 9 = .ok (.aload_n 0, 1) := by decide +kernel
theorem dX6_keep_10 : decode cX6_keep 10 = .ok (.getfield 86, 3) := by decide +kernel
theorem dX6_keep_13 : decode cX6_keep 13 = .ok (.putfield 164, 3) := by decide +kernel
theorem dX6_keep_16 : decode cX6_keep 16 = .ok (.aload_n 0, 1) := by decide +kernel
theorem dX6_keep_17 : decode cX6_keep 17 = .ok (.aload_n 0, 1) := by decide +kernel
theorem dX6_keep_18 : decode cX6_keep 18 = .ok (.getfield 92, 3) := by decide +kernel
theorem dX6_keep_21 : decode cX6_keep 21 = .ok (.putfield 167, 3) := by decide +kernel
theorem dX6_keep_24 : decode cX6_keep 24 = .ok (.iconst 0, 1) := by decide +kernel
theorem dX6_keep_25 : decode cX6_keep 25 = .ok (.istore_n 1, 1) := by decide +kernel
theorem dX6_keep_26 : decode cX6_keep 26 = .ok (.iload_n 1, 1) := by decide +kernel
theorem dX6_keep_27 : decode cX6_keep 27 = .ok (.aload_n 0, 1) := by decide +kernel
theorem dX6_keep_28 : decode cX6_keep 28 = .ok (.getfield 56, 3) := by decide +kernel
theorem dX6_keep_31 : decode cX6_keep 31 = .ok (.if_icmp .ge 55, 3) := by decide +kernel
theorem dX6_keep_34 : decode cX6_keep 34 = .ok (.aload_n 0, 1) := by decide +kernel
theorem dX6_keep_35 : decode cX6_keep 35 = .ok (.getfield 34, 3) := by decide +kernel
theorem dX6_keep_38 : decode cX6_keep 38 = .ok (.iconst 3, 1) := by decide +kernel
theorem dX6_keep_39 : decode cX6_keep 39 = .ok (.iload_n 1, 1) := by decide +kernel
theorem dX6_keep_40 : decode cX6_keep 40 = .ok (.imul, 1) := by decide +kernel
theorem dX6_keep_41 : decode cX6_keep 41 = .ok (.aload_n 0, 1) := by decide +kernel
theorem dX6_keep_42 : decode cX6_keep 42 = .ok (.getfield 19, 3) := by decide +kernel
theorem dX6_keep_45 : decode cX6_keep 45 = .ok (.iload_n 1, 1) := by decide +kernel
theorem dX6_keep_46 : decode cX6_keep 46 = .ok (.iaload, 1) := by decide +kernel
theorem dX6_keep_47 : decode cX6_keep 47 = .ok (.iastore, 1) := by decide +kernel
theorem dX6_keep_48 : decode cX6_keep 48 = .ok (.aload_n 0, 1) := by decide +kernel
theorem dX6_keep_49 : decode cX6_keep 49 = .ok (.getfield 34, 3) := by decide +kernel
theorem dX6_keep_52 : decode cX6_keep 52 = .ok (.iconst 3, 1) := by decide +kernel
theorem dX6_keep_53 : decode cX6_keep 53 = .ok (.iload_n 1, 1) := by decide +kernel
theorem dX6_keep_54 : decode cX6_keep 54 = .ok (.imul, 1) := by decide +kernel
theorem dX6_keep_55 : decode cX6_keep 55 = .ok (.iconst 1, 1) := by decide +kernel
theorem dX6_keep_56 : decode cX6_keep 56 = .ok (.iadd, 1) := by decide +kernel
theorem dX6_keep_57 : decode cX6_keep 57 = .ok (.aload_n 0, 1) := by decide +kernel
theorem dX6_keep_58 : decode cX6_keep 58 = .ok (.getfield 22, 3) := by decide +kernel
theorem dX6_keep_61 : decode cX6_keep 61 = .ok (.iload_n 1, 1) := by decide +kernel
theorem dX6_keep_62 : decode cX6_keep 62 = .ok (.iaload, 1) := by decide +kernel
theorem dX6_keep_63 : decode cX6_keep 63 = .ok (.iastore, 1) := by decide +kernel
theorem dX6_keep_64 : decode cX6_keep 64 = .ok (.aload_n 0, 1) := by decide +kernel
theorem dX6_keep_65 : decode cX6_keep 65 = .ok (.getfield 34, 3) := by decide +kernel
theorem dX6_keep_68 : decode cX6_keep 68 = .ok (.iconst 3, 1) := by decide +kernel
theorem dX6_keep_69 : decode cX6_keep 69 = .ok (.iload_n 1, 1) := by decide +kernel
theorem dX6_keep_70 : decode cX6_keep 70 = .ok (.imul, 1) := by decide +kernel
theorem dX6_keep_71 : decode cX6_keep 71 = .ok (.iconst 2, 1) := by decide +kernel
theorem dX6_keep_72 : decode cX6_keep 72 = .ok (.iadd, 1) := by decide +kernel
theorem dX6_keep_73 : decode cX6_keep 73 = .ok (.aload_n 0, 1) := by decide +kernel
theorem dX6_keep_74 : decode cX6_keep 74 = .ok (.getfield 25, 3) := by decide +kernel
theorem dX6_keep_77 : decode cX6_keep 77 = .ok (.iload_n 1, 1) := by decide +kernel
theorem dX6_keep_78 : decode cX6_keep 78 = .ok (.iaload, 1) := by decide +kernel
theorem dX6_keep_79 : decode cX6_keep 79 = .ok (.iastore, 1) := by decide +kernel
theorem dX6_keep_80 : decode cX6_keep 80 = .ok (.iinc 1 1, 3) := by decide +kernel
theorem dX6_keep_83 : decode cX6_keep 83 = .ok (.goto (-57), 3) := by decide +kernel
theorem dX6_keep_86 : decode cX6_keep 86 = .ok (.return_, 1) := by decide +kernel
theorem dX6_putBack_0 : decode cX6_putBack 0 = .ok (.aload_n 0, 1) := by decide +kernel
theorem dX6_putBack_1 : decode cX6_putBack 1 = .ok (.aload_n 0, 1) := by decide +kernel
theorem dX6_putBack_2 : decode cX6_putBack 2 = .ok (.getfield 161, 3) := by decide +kernel
theorem dX6_putBack_5 : decode cX6_putBack 5 = .ok (.putfield 56, 3) := by decide +kernel
theorem dX6_putBack_8 : decode cX6_putBack 8 = .ok (.aload_n 0, 1) := by decide +kernel
theorem dX6_putBack_9 : decode cX6_putBack 9 = .ok (.aload_n 0, 1) := by decide +kernel
theorem dX6_putBack_10 : decode cX6_putBack 10 = .ok (.getfield 164, 3) := by decide +kernel
theorem dX6_putBack_13 : decode cX6_putBack 13 = .ok (.putfield 86, 3) := by decide +kernel
theorem dX6_putBack_16 : decode cX6_putBack 16 = .ok (.aload_n 0, 1) := by decide +kernel
theorem dX6_putBack_17 : decode cX6_putBack 17 = .ok (.aload_n 0, 1) := by decide +kernel
theorem dX6_putBack_18 : decode cX6_putBack 18 = .ok (.getfield 167, 3) := by decide +kernel
theorem dX6_putBack_21 : decode cX6_putBack 21 = .ok (.putfield 92, 3) := by decide +kernel
theorem dX6_putBack_24 : decode cX6_putBack 24 = .ok (.iconst 0, 1) := by decide +kernel
theorem dX6_putBack_25 : decode cX6_putBack 25 = .ok (.istore_n 1, 1) := by decide +kernel
theorem dX6_putBack_26 : decode cX6_putBack 26 = .ok (.iload_n 1, 1) := by decide +kernel
theorem dX6_putBack_27 : decode cX6_putBack 27 = .ok (.aload_n 0, 1) := by decide +kernel
theorem dX6_putBack_28 : decode cX6_putBack 28 = .ok (.getfield 56, 3) := by decide +kernel
theorem dX6_putBack_31 : decode cX6_putBack 31 = .ok (.if_icmp .ge 55, 3) := by decide +kernel
theorem dX6_putBack_34 : decode cX6_putBack 34 = .ok (.aload_n 0, 1) := by decide +kernel
theorem dX6_putBack_35 : decode cX6_putBack 35 = .ok (.getfield 19, 3) := by decide +kernel
theorem dX6_putBack_38 : decode cX6_putBack 38 = .ok (.iload_n 1, 1) := by decide +kernel
theorem dX6_putBack_39 : decode cX6_putBack 39 = .ok (.aload_n 0, 1) := by decide +kernel
theorem dX6_putBack_40 : decode cX6_putBack 40 = .ok (.getfield 34, 3) := by decide +kernel
theorem dX6_putBack_43 : decode cX6_putBack 43 = .ok (.iconst 3, 1) := by decide +kernel
theorem dX6_putBack_44 : decode cX6_putBack 44 = .ok (.iload_n 1, 1) := by decide +kernel
theorem dX6_putBack_45 : decode cX6_putBack 45 = .ok (.imul, 1) := by decide +kernel
theorem dX6_putBack_46 : decode cX6_putBack 46 = .ok (.iaload, 1) := by decide +kernel
theorem dX6_putBack_47 : decode cX6_putBack 47 = .ok (.iastore, 1) := by decide +kernel
theorem dX6_putBack_48 : decode cX6_putBack 48 = .ok (.aload_n 0, 1) := by decide +kernel
theorem dX6_putBack_49 : decode cX6_putBack 49 = .ok (.getfield 22, 3) := by decide +kernel
theorem dX6_putBack_52 : decode cX6_putBack 52 = .ok (.iload_n 1, 1) := by decide +kernel
theorem dX6_putBack_53 : decode cX6_putBack 53 = .ok (.aload_n 0, 1) := by decide +kernel
theorem dX6_putBack_54 : decode cX6_putBack 54 = .ok (.getfield 34, 3) := by decide +kernel
theorem dX6_putBack_57 : decode cX6_putBack 57 = .ok (.iconst 3, 1) := by decide +kernel
theorem dX6_putBack_58 : decode cX6_putBack 58 = .ok (.iload_n 1, 1) := by decide +kernel
theorem dX6_putBack_59 : decode cX6_putBack 59 = .ok (.imul, 1) := by decide +kernel
theorem dX6_putBack_60 : decode cX6_putBack 60 = .ok (.iconst 1, 1) := by decide +kernel
theorem dX6_putBack_61 : decode cX6_putBack 61 = .ok (.iadd, 1) := by decide +kernel
theorem dX6_putBack_62 : decode cX6_putBack 62 = .ok (.iaload, 1) := by decide +kernel
theorem dX6_putBack_63 : decode cX6_putBack 63 = .ok (.iastore, 1) := by decide +kernel
theorem dX6_putBack_64 : decode cX6_putBack 64 = .ok (.aload_n 0, 1) := by decide +kernel
theorem dX6_putBack_65 : decode cX6_putBack 65 = .ok (.getfield 25, 3) := by decide +kernel
theorem dX6_putBack_68 : decode cX6_putBack 68 = .ok (.iload_n 1, 1) := by decide +kernel
theorem dX6_putBack_69 : decode cX6_putBack 69 = .ok (.aload_n 0, 1) := by decide +kernel
theorem dX6_putBack_70 : decode cX6_putBack 70 = .ok (.getfield 34, 3) := by decide +kernel
theorem dX6_putBack_73 : decode cX6_putBack 73 = .ok (.iconst 3, 1) := by decide +kernel
theorem dX6_putBack_74 : decode cX6_putBack 74 = .ok (.iload_n 1, 1) := by decide +kernel
theorem dX6_putBack_75 : decode cX6_putBack 75 = .ok (.imul, 1) := by decide +kernel
theorem dX6_putBack_76 : decode cX6_putBack 76 = .ok (.iconst 2, 1) := by decide +kernel
theorem dX6_putBack_77 : decode cX6_putBack 77 = .ok (.iadd, 1) := by decide +kernel
theorem dX6_putBack_78 : decode cX6_putBack 78 = .ok (.iaload, 1) := by decide +kernel
theorem dX6_putBack_79 : decode cX6_putBack 79 = .ok (.iastore, 1) := by decide +kernel
theorem dX6_putBack_80 : decode cX6_putBack 80 = .ok (.iinc 1 1, 3) := by decide +kernel
theorem dX6_putBack_83 : decode cX6_putBack 83 = .ok (.goto (-57), 3) := by decide +kernel
theorem dX6_putBack_86 : decode cX6_putBack 86 = .ok (.return_, 1) := by decide +kernel
set_option maxRecDepth 20000 in
theorem ggX6_isPair_X6_within : GoodIn wsX6_isPair wsX6_within := goodIn_r _ [4] (by decide +kernel) (by decide +kernel)
set_option maxRecDepth 20000 in
theorem gX6_isPair_X6_within : GoodIn wsX6_isPair (va_wsS RX6 52 yX6_within wsX6_within) := goodIn_app (goodIn_of _ (by decide +kernel)) ggX6_isPair_X6_within
set_option maxRecDepth 20000 in
theorem ggX6_isPair_X6_isDigit : GoodIn wsX6_isPair wsX6_isDigit := goodIn_r _ [7, 1, 2, 3, 4] (by decide +kernel) (by decide +kernel)
set_option maxRecDepth 20000 in
theorem gX6_isPair_X6_isDigit : GoodIn wsX6_isPair (va_wsS RX6 141 yX6_isDigit wsX6_isDigit) := goodIn_app (goodIn_of _ (by decide +kernel)) ggX6_isPair_X6_isDigit
theorem dX6_isPair_0 : decode cX6_isPair 0 = .ok (.iload_n 0, 1) := by decide +kernel
theorem dX6_isPair_1 : decode cX6_isPair 1 = .ok (.tableswitch 54 0 3 #[31, 49, 39, 49], 31) := by decide +kernel
theorem dX6_isPair_32 : decode cX6_isPair 32 = .ok (.iload_n 1, 1) := by decide +kernel
theorem dX6_isPair_33 : decode cX6_isPair 33 = .ok (.iconst 0, 1) := by decide +kernel
theorem dX6_isPair_34 : decode cX6_isPair 34 = .ok (.bipush 20, 2) := by decide +kernel
theorem dX6_isPair_36 : decode cX6_isPair 36 = .ok (.invokestatic 52, 3) := by decide +kernel
theorem dX6_isPair_39 : decode cX6_isPair 39 = .ok (.ireturn, 1) := by decide +kernel
theorem dX6_isPair_40 : decode cX6_isPair 40 = .ok (.iload_n 1, 1) := by decide +kernel
theorem dX6_isPair_41 : decode cX6_isPair 41 = .ok (.ifCond .ne 7, 3) := by decide +kernel
theorem dX6_isPair_44 : decode cX6_isPair 44 = .ok (.iconst 1, 1) := by decide +kernel
theorem dX6_isPair_45 : decode cX6_isPair 45 = .ok (.goto 4, 3) := by decide +kernel
theorem dX6_isPair_48 : decode cX6_isPair 48 = .ok (.iconst 0, 1) := by decide +kernel
theorem dX6_isPair_49 : decode cX6_isPair 49 = .ok (.ireturn, 1) := by decide +kernel
theorem dX6_isPair_50 : decode cX6_isPair 50 = .ok (.iload_n 1, 1) := by decide +kernel
theorem dX6_isPair_51 : decode cX6_isPair 51 = .ok (.invokestatic 141, 3) := by decide +kernel
theorem dX6_isPair_54 : decode cX6_isPair 54 = .ok (.ireturn, 1) := by decide +kernel
theorem dX6_isPair_55 : decode cX6_isPair 55 = .ok (.iconst 0, 1) := by decide +kernel
theorem dX6_isPair_56 : decode cX6_isPair 56 = .ok (.ireturn, 1) := by decide +kernel
set_option maxRecDepth 20000 in
theorem ggX6_does_X6_mayPeel : GoodIn wsX6_does wsX6_mayPeel := goodIn_r _ [8, 3, 9, 10, 11, 7, 12, 1, 2, 13, 14, 15, 16, 17, 18, 19, 20, 21, 22, 23, 24, 25, 26, 27, 28, 29, 30, 40, 41, 42, 43, 44, 45, 46, 47, 48, 49, 50, 51, 52, 53, 54, 55, 56, 57, 58, 59, 60, 61, 62, 63, 64, 65] (by decide +kernel) (by decide +kernel)
set_option maxRecDepth 20000 in
theorem gX6_does_X6_mayPeel : GoodIn wsX6_does (wsV RX6 154 RX6 yX6_mayPeel wsX6_mayPeel) := goodIn_app (goodIn_of _ (by decide +kernel)) ggX6_does_X6_mayPeel
set_option maxRecDepth 20000 in
theorem ggX6_does_X6_takeOff : GoodIn wsX6_does wsX6_takeOff := goodIn_r _ [34, 35, 3, 29, 30, 40, 41, 42, 43, 44, 45, 46, 47, 48, 49, 50, 51, 52, 53, 54, 55, 56, 57, 58, 59, 60, 61, 62, 63, 64, 65] (by decide +kernel) (by decide +kernel)
set_option maxRecDepth 20000 in
theorem gX6_does_X6_takeOff : GoodIn wsX6_does (wsV RX6 158 RX6 yX6_takeOff wsX6_takeOff) := goodIn_app (goodIn_of _ (by decide +kernel)) ggX6_does_X6_takeOff
set_option maxRecDepth 20000 in
theorem ggX6_does_X6_putOn : GoodIn wsX6_does wsX6_putOn := goodIn_r _ [39, 3, 29, 30, 35, 40, 41, 42, 43, 44, 45, 46, 47, 48, 49, 50, 51, 52, 53, 54, 55, 56, 57, 58, 59, 60, 61, 62, 63, 64, 65] (by decide +kernel) (by decide +kernel)
set_option maxRecDepth 20000 in
theorem gX6_does_X6_putOn : GoodIn wsX6_does (wsV RX6 150 RX6 yX6_putOn wsX6_putOn) := goodIn_app (goodIn_of _ (by decide +kernel)) ggX6_does_X6_putOn
theorem dX6_does_0 : decode cX6_does 0 = .ok (.iload_n 1, 1) := by decide +kernel
theorem dX6_does_1 : decode cX6_does 1 = .ok (.ifCond .ne 8, 3) := by decide +kernel
theorem dX6_does_4 : decode cX6_does 4 = .ok (.aload_n 0, 1) := by decide +kernel
theorem dX6_does_5 : decode cX6_does 5 = .ok (.iload_n 2, 1) := by decide +kernel
theorem dX6_does_6 : decode cX6_does 6 = .ok (.putfield 86, 3) := by decide +kernel
theorem dX6_does_9 : decode cX6_does 9 = .ok (.iload_n 1, 1) := by decide +kernel
theorem dX6_does_10 : decode cX6_does 10 = .ok (.iconst 1, 1) := by decide +kernel
theorem dX6_does_11 : decode cX6_does 11 = .ok (.if_icmp .ne 8, 3) := by decide +kernel
theorem dX6_does_14 : decode cX6_does 14 = .ok (.aload_n 0, 1) := by decide +kernel
theorem dX6_does_15 : decode cX6_does 15 = .ok (.iload_n 2, 1) := by decide +kernel
theorem dX6_does_16 : decode cX6_does 16 = .ok (.putfield 92, 3) := by decide +kernel
theorem dX6_does_19 : decode cX6_does 19 = .ok (.iload_n 1, 1) := by decide +kernel
theorem dX6_does_20 : decode cX6_does 20 = .ok (.iconst 2, 1) := by decide +kernel
theorem dX6_does_21 : decode cX6_does 21 = .ok (.if_icmp .ne 10, 3) := by decide +kernel
theorem dX6_does_24 : decode cX6_does 24 = .ok (.aload_n 0, 1) := by decide +kernel
theorem dX6_does_25 : decode cX6_does 25 = .ok (.invokevirtual 154, 3) := by decide +kernel
theorem dX6_does_28 : decode cX6_does 28 = .ok (.ifCond .eq 17, 3) := by decide +kernel
theorem dX6_does_31 : decode cX6_does 31 = .ok (.iload_n 1, 1) := by decide +kernel
theorem dX6_does_32 : decode cX6_does 32 = .ok (.iconst 3, 1) := by decide +kernel
theorem dX6_does_33 : decode cX6_does 33 = .ok (.if_icmp .ne 14, 3) := by decide +kernel
theorem dX6_does_36 : decode cX6_does 36 = .ok (.aload_n 0, 1) := by decide +kernel
theorem dX6_does_37 : decode cX6_does 37 = .ok (.getfield 56, 3) := by decide +kernel
theorem dX6_does_40 : decode cX6_does 40 = .ok (.bipush 6, 2) := by decide +kernel
theorem dX6_does_42 : decode cX6_does 42 = .ok (.if_icmp .ne 5, 3) := by decide +kernel
theorem dX6_does_45 : decode cX6_does 45 = .ok (.iconst 0, 1) := by decide +kernel
theorem dX6_does_46 : decode cX6_does 46 = .ok (.ireturn, 1) := by decide +kernel
theorem dX6_does_47 : decode cX6_does 47 = .ok (.iload_n 1, 1) := by decide +kernel
theorem dX6_does_48 : decode cX6_does 48 = .ok (.iconst 2, 1) := by decide +kernel
theorem dX6_does_49 : decode cX6_does 49 = .ok (.if_icmp .ne 8, 3) := by decide +kernel
theorem dX6_does_52 : decode cX6_does 52 = .ok (.aload_n 0, 1) := by decide +kernel
theorem dX6_does_53 : decode cX6_does 53 = .ok (.invokevirtual 158, 3) := by decide +kernel
theorem dX6_does_56 : decode cX6_does 56 = .ok (.pop, 1) := by decide +kernel
theorem dX6_does_57 : decode cX6_does 57 = .ok (.iload_n 1, 1) := by decide +kernel
theorem dX6_does_58 : decode cX6_does 58 = .ok (.iconst 3, 1) := by decide +kernel
theorem dX6_does_59 : decode cX6_does 59 = .ok (.if_icmp .ne 10, 3) := by decide +kernel
theorem dX6_does_62 : decode cX6_does 62 = .ok (.aload_n 0, 1) := by decide +kernel
theorem dX6_does_63 : decode cX6_does 63 = .ok (.iconst 0, 1) := by decide +kernel
theorem dX6_does_64 : decode cX6_does 64 = .ok (.iload_n 2, 1) := by decide +kernel
theorem dX6_does_65 : decode cX6_does 65 = .ok (.iload_n 2, 1) := by decide +kernel
theorem dX6_does_66 : decode cX6_does 66 = .ok (.invokevirtual 150, 3) := by decide +kernel
theorem dX6_does_69 : decode cX6_does 69 = .ok (.iconst 1, 1) := by decide +kernel
theorem dX6_does_70 : decode cX6_does 70 = .ok (.ireturn, 1) := by decide +kernel
set_option maxRecDepth 20000 in
theorem ggX6_goDays_X6_does : GoodIn wsX6_goDays wsX6_does := goodIn_r _ [7, 8, 9, 10, 11, 12, 13, 6, 14, 15, 16, 17, 18, 19, 20, 21, 22, 23, 24, 25, 26, 27, 28, 29, 30, 31, 32, 33, 34, 35, 36, 37, 38, 39, 40, 41, 42, 43, 44, 45, 54, 55, 56, 57, 58, 59, 60, 61, 62, 63, 64, 65, 66, 67, 68, 69, 70, 71, 72, 73, 74, 75, 76, 77, 78, 79] (by decide +kernel) (by decide +kernel)
set_option maxRecDepth 20000 in
theorem gX6_goDays_X6_does : GoodIn wsX6_goDays (wsV RX6 173 RX6 yX6_does wsX6_does) := goodIn_app (goodIn_of _ (by decide +kernel)) ggX6_goDays_X6_does
set_option maxRecDepth 20000 in
theorem ggX6_goDays_X6_heardNow : GoodIn wsX6_goDays wsX6_heardNow := goodIn_r _ [49, 8, 9, 19, 20, 21, 6, 22, 10, 23, 50, 51, 52, 53, 35, 24, 25, 26, 27, 28, 29, 30, 31, 32, 33, 34, 36, 54, 55, 56, 57, 58, 59, 60, 61, 62, 63, 64, 65, 66, 67, 68, 69, 70, 71, 72, 73, 74, 75, 76, 77, 78, 79] (by decide +kernel) (by decide +kernel)
set_option maxRecDepth 20000 in
theorem gX6_goDays_X6_heardNow : GoodIn wsX6_goDays (wsV RX6 138 RX6 yX6_heardNow wsX6_heardNow) := goodIn_app (goodIn_of _ (by decide +kernel)) ggX6_goDays_X6_heardNow
theorem dX6_goDays_0 : decode cX6_goDays 0 = .ok (.aload_n 0, 1) := by decide +kernel
theorem dX6_goDays_1 : decode cX6_goDays 1 = .ok (.iconst 0, 1) := by decide +kernel
theorem dX6_goDays_2 : decode cX6_goDays 2 = .ok (.putfield 170, 3) := by decide +kernel
theorem dX6_goDays_5 : decode cX6_goDays 5 = .ok (.iconst 0, 1) := by decide +kernel
theorem dX6_goDays_6 : decode cX6_goDays 6 = .ok (.istore_n 3, 1) := by decide +kernel
theorem dX6_goDays_7 : decode cX6_goDays 7 = .ok (.iload_n 3, 1) := by decide +kernel
theorem dX6_goDays_8 : decode cX6_goDays 8 = .ok (.iload_n 2, 1) := by decide +kernel
theorem dX6_goDays_9 : decode cX6_goDays 9 = .ok (.if_icmp .ge 61, 3) := by decide +kernel
theorem dX6_goDays_12 : decode cX6_goDays 12 = .ok (.aload_n 0, 1) := by decide +kernel
theorem dX6_goDays_13 : decode cX6_goDays 13 = .ok (.aload_n 0, 1) := by decide +kernel
theorem dX6_goDays_14 : decode cX6_goDays 14 = .ok (.getfield 16, 3) := by decide +kernel
theorem dX6_goDays_17 : decode cX6_goDays 17 = .ok (.iload_n 1, 1) := by decide +kernel
theorem dX6_goDays_18 : decode cX6_goDays 18 = .ok (.iconst 2, 1) := by decide +kernel
theorem dX6_goDays_19 : decode cX6_goDays 19 = .ok (.iload_n 3, 1) := by decide +kernel
theorem dX6_goDays_20 : decode cX6_goDays 20 = .ok (.imul, 1) := by decide +kernel
theorem dX6_goDays_21 : decode cX6_goDays 21 = .ok (.iadd, 1) := by decide +kernel
theorem dX6_goDays_22 : decode cX6_goDays 22 = .ok (.iaload, 1) := by decide +kernel
theorem dX6_goDays_23 : decode cX6_goDays 23 = .ok (.aload_n 0, 1) := by decide +kernel
theorem dX6_goDays_24 : decode cX6_goDays 24 = .ok (.getfield 16, 3) := by decide +kernel
theorem dX6_goDays_27 : decode cX6_goDays 27 = .ok (.iload_n 1, 1) := by decide +kernel
theorem dX6_goDays_28 : decode cX6_goDays 28 = .ok (.iconst 2, 1) := by decide +kernel
theorem dX6_goDays_29 : decode cX6_goDays 29 = .ok (.iload_n 3, 1) := by decide +kernel
theorem dX6_goDays_30 : decode cX6_goDays 30 = .ok (.imul, 1) := by decide +kernel
theorem dX6_goDays_31 : decode cX6_goDays 31 = .ok (.iadd, 1) := by decide +kernel
theorem dX6_goDays_32 : decode cX6_goDays 32 = .ok (.iconst 1, 1) := by decide +kernel
theorem dX6_goDays_33 : decode cX6_goDays 33 = .ok (.iadd, 1) := by decide +kernel
theorem dX6_goDays_34 : decode cX6_goDays 34 = .ok (.iaload, 1) := by decide +kernel
theorem dX6_goDays_35 : decode cX6_goDays 35 = .ok (.invokevirtual 173, 3) := by decide +kernel
theorem dX6_goDays_38 : decode cX6_goDays 38 = .ok (.ifCond .ne 5, 3) := by decide +kernel
theorem dX6_goDays_41 : decode cX6_goDays 41 = .ok (.iload_n 3, 1) := by decide +kernel
theorem dX6_goDays_42 : decode cX6_goDays 42 = .ok (.ireturn, 1) := by decide +kernel
theorem dX6_goDays_43 : decode cX6_goDays 43 = .ok (.aload_n 0, 1) := by decide +kernel
theorem dX6_goDays_44 : decode cX6_goDays 44 = .ok (.dup, 1) := by decide +kernel
theorem dX6_goDays_45 : decode cX6_goDays 45 = .ok (.getfield 170, 3) := by decide +kernel
theorem dX6_goDays_48 : decode cX6_goDays 48 = .ok (.aload_n 0, 1) := by decide +kernel
theorem dX6_goDays_49 : decode cX6_goDays 49 = .ok (.invokevirtual 138, 3) := by decide +kernel
theorem dX6_goDays_52 : decode cX6_goDays 52 = .ok (.ifCond .ne 7, 3) := by decide +kernel
theorem dX6_goDays_55 : decode cX6_goDays 55 = .ok (.iconst 0, 1) := by decide +kernel
theorem dX6_goDays_56 : decode cX6_goDays 56 = .ok (.goto 4, 3) := by decide +kernel
theorem dX6_goDays_59 : decode cX6_goDays 59 = .ok (.iconst 1, 1) := by decide +kernel
theorem dX6_goDays_60 : decode cX6_goDays 60 = .ok (.iadd, 1) := by decide +kernel
theorem dX6_goDays_61 : decode cX6_goDays 61 = .ok (.putfield 170, 3) := by decide +kernel
theorem dX6_goDays_64 : decode cX6_goDays 64 = .ok (.iinc 3 1, 3) := by decide +kernel
theorem dX6_goDays_67 : decode cX6_goDays 67 = .ok (.goto (-60), 3) := by decide +kernel
theorem dX6_goDays_70 : decode cX6_goDays 70 = .ok (.bipush (-9), 2) := by decide +kernel
theorem dX6_goDays_72 : decode cX6_goDays 72 = .ok (.ireturn, 1) := by decide +kernel
set_option maxRecDepth 20000 in
theorem ggX6_days_X6_isSheet : GoodIn wsX6_days wsX6_isSheet := goodIn_r _ [7, 8, 9, 6, 10] (by decide +kernel) (by decide +kernel)
set_option maxRecDepth 20000 in
theorem gX6_days_X6_isSheet : GoodIn wsX6_days (va_wsS RX6 62 yX6_isSheet wsX6_isSheet) := goodIn_app (goodIn_of _ (by decide +kernel)) ggX6_days_X6_isSheet
set_option maxRecDepth 20000 in
theorem ggX6_days_X6_isSort : GoodIn wsX6_days wsX6_isSort := goodIn_r _ [13, 8, 9, 6, 10] (by decide +kernel) (by decide +kernel)
set_option maxRecDepth 20000 in
theorem gX6_days_X6_isSort : GoodIn wsX6_days (va_wsS RX6 66 yX6_isSort wsX6_isSort) := goodIn_app (goodIn_of _ (by decide +kernel)) ggX6_days_X6_isSort
set_option maxRecDepth 20000 in
theorem ggX6_days_X6_within : GoodIn wsX6_days wsX6_within := goodIn_r _ [10] (by decide +kernel) (by decide +kernel)
set_option maxRecDepth 20000 in
theorem gX6_days_X6_within : GoodIn wsX6_days (va_wsS RX6 52 yX6_within wsX6_within) := goodIn_app (goodIn_of _ (by decide +kernel)) ggX6_days_X6_within
set_option maxRecDepth 20000 in
theorem ggX6_days_X6_against : GoodIn wsX6_days wsX6_against := goodIn_r _ [17, 18, 19, 108, 109, 110, 111, 112, 113, 114, 115, 116, 117, 118, 119, 120, 121, 122, 123, 124, 125, 126, 127, 128, 129, 130, 131, 132, 133] (by decide +kernel) (by decide +kernel)
set_option maxRecDepth 20000 in
theorem gX6_days_X6_against : GoodIn wsX6_days (wsV RX6 69 RX6 yX6_against wsX6_against) := goodIn_app (goodIn_of _ (by decide +kernel)) ggX6_days_X6_against
set_option maxRecDepth 20000 in
theorem ggX6_days_X6_fails : GoodIn wsX6_days wsX6_fails := goodIn_r _ [23, 1, 108, 109, 110, 111, 112, 113, 114, 115, 116, 117, 118, 119, 120, 121, 122, 123, 124, 125, 126, 127, 128, 129, 130, 131, 132, 133] (by decide +kernel) (by decide +kernel)
set_option maxRecDepth 20000 in
theorem gX6_days_X6_fails : GoodIn wsX6_days (wsV RX6 73 RX6 yX6_fails wsX6_fails) := goodIn_app (goodIn_of _ (by decide +kernel)) ggX6_days_X6_fails
set_option maxRecDepth 20000 in
theorem ggX6_days_X6_isPair : GoodIn wsX6_days wsX6_isPair := goodIn_r _ [26, 8, 9, 6, 10, 27, 28, 29] (by decide +kernel) (by decide +kernel)
set_option maxRecDepth 20000 in
theorem gX6_days_X6_isPair : GoodIn wsX6_days (va_wsS RX6 176 yX6_isPair wsX6_isPair) := goodIn_app (goodIn_of _ (by decide +kernel)) ggX6_days_X6_isPair
set_option maxRecDepth 20000 in
theorem ggX6_days_X6_keep : GoodIn wsX6_days wsX6_keep := goodIn_r _ [33, 2, 34, 35, 36, 37, 38, 39, 40, 41, 42, 108, 109, 110, 111, 112, 113, 114, 115, 116, 117, 118, 119, 120, 121, 122, 123, 124, 125, 126, 127, 128, 129, 130, 131, 132, 133] (by decide +kernel) (by decide +kernel)
set_option maxRecDepth 20000 in
theorem gX6_days_X6_keep : GoodIn wsX6_days (wsV RX6 179 RX6 yX6_keep wsX6_keep) := goodIn_app (goodIn_of _ (by decide +kernel)) ggX6_days_X6_keep
set_option maxRecDepth 20000 in
theorem ggX6_days_X6_goDays : GoodIn wsX6_days wsX6_goDays := goodIn_r _ [46, 47, 3, 48, 49, 50, 6, 51, 35, 37, 2, 52, 53, 54, 55, 56, 57, 58, 59, 60, 61, 62, 63, 64, 65, 66, 67, 68, 69, 70, 71, 72, 73, 74, 75, 40, 41, 76, 77, 78, 79, 42, 80, 81, 82, 83, 84, 85, 86, 87, 88, 89, 90, 91, 108, 109, 110, 111, 112, 113, 114, 115, 116, 117, 118, 119, 120, 121, 122, 123, 124, 125, 126, 127, 128, 129, 130, 131, 132, 133] (by decide +kernel) (by decide +kernel)
set_option maxRecDepth 20000 in
theorem gX6_days_X6_goDays : GoodIn wsX6_days (wsV RX6 182 RX6 yX6_goDays wsX6_goDays) := goodIn_app (goodIn_of _ (by decide +kernel)) ggX6_days_X6_goDays
set_option maxRecDepth 20000 in
theorem ggX6_days_X6_tellDays : GoodIn wsX6_days wsX6_tellDays := goodIn_r _ [95, 35, 37, 2, 47, 60, 61, 62, 6, 63, 64, 96, 97, 98, 99, 42, 88, 89, 90, 91, 40, 65, 66, 67, 68, 69, 70, 71, 72, 73, 74, 75, 41, 100, 101, 102, 103, 84, 85, 86, 87, 108, 109, 110, 111, 112, 113, 114, 115, 116, 117, 118, 119, 120, 121, 122, 123, 124, 125, 126, 127, 128, 129, 130, 131, 132, 133] (by decide +kernel) (by decide +kernel)
set_option maxRecDepth 20000 in
theorem gX6_days_X6_tellDays : GoodIn wsX6_days (wsV RX6 185 RX6 yX6_tellDays wsX6_tellDays) := goodIn_app (goodIn_of _ (by decide +kernel)) ggX6_days_X6_tellDays
set_option maxRecDepth 20000 in
theorem ggX6_days_X6_putBack : GoodIn wsX6_days wsX6_putBack := goodIn_r _ [107, 34, 2, 36, 35, 38, 37, 40, 39, 41, 42, 108, 109, 110, 111, 112, 113, 114, 115, 116, 117, 118, 119, 120, 121, 122, 123, 124, 125, 126, 127, 128, 129, 130, 131, 132, 133] (by decide +kernel) (by decide +kernel)
set_option maxRecDepth 20000 in
theorem gX6_days_X6_putBack : GoodIn wsX6_days (wsV RX6 188 RX6 yX6_putBack wsX6_putBack) := goodIn_app (goodIn_of _ (by decide +kernel)) ggX6_days_X6_putBack
