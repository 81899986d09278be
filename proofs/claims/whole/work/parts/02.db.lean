theorem dX5_wall_0 : decode cX5_wall 0 = .ok (.aload_n 0, 1) := by decide +kernel
theorem dX5_wall_1 : decode cX5_wall 1 = .ok (.iconst 0, 1) := by decide +kernel
theorem dX5_wall_2 : decode cX5_wall 2 = .ok (.putfield 42, 3) := by decide +kernel
theorem dX5_wall_5 : decode cX5_wall 5 = .ok (.aload_n 0, 1) := by decide +kernel
theorem dX5_wall_6 : decode cX5_wall 6 = .ok (.iload_n 1, 1) := by decide +kernel
theorem dX5_wall_7 : decode cX5_wall 7 = .ok (.invokevirtual 46, 3) := by decide +kernel
theorem dX5_wall_10 : decode cX5_wall 10 = .ok (.astore 5, 2) := by decide +kernel
theorem dX5_wall_12 : decode cX5_wall 12 = .ok (.aload 5, 2) := by decide +kernel
theorem dX5_wall_14 : decode cX5_wall 14 = .ok (.ifnonnull 5, 3) := by decide +kernel
theorem dX5_wall_17 : decode cX5_wall 17 = .ok (.iconst (-1), 1) := by decide +kernel
theorem dX5_wall_18 : decode cX5_wall 18 = .ok (.ireturn, 1) := by decide +kernel
theorem dX5_wall_19 : decode cX5_wall 19 = .ok (.iload_n 2, 1) := by decide +kernel
theorem dX5_wall_20 : decode cX5_wall 20 = .ok (.iconst 2, 1) := by decide +kernel
theorem dX5_wall_21 : decode cX5_wall 21 = .ok (.invokestatic 50, 3) := by decide +kernel
theorem dX5_wall_24 : decode cX5_wall 24 = .ok (.ifCond .ne 6, 3) := by decide +kernel
theorem dX5_wall_27 : decode cX5_wall 27 = .ok (.bipush (-2), 2) := by decide +kernel
theorem dX5_wall_29 : decode cX5_wall 29 = .ok (.ireturn, 1) := by decide +kernel
theorem dX5_wall_30 : decode cX5_wall 30 = .ok (.aload 5, 2) := by decide +kernel
theorem dX5_wall_32 : decode cX5_wall 32 = .ok (.iload_n 2, 1) := by decide +kernel
theorem dX5_wall_33 : decode cX5_wall 33 = .ok (.invokevirtual 54, 3) := by decide +kernel
theorem dX5_wall_36 : decode cX5_wall 36 = .ok (.istore 6, 2) := by decide +kernel
theorem dX5_wall_38 : decode cX5_wall 38 = .ok (.iload 6, 2) := by decide +kernel
theorem dX5_wall_40 : decode cX5_wall 40 = .ok (.ifCond .ne 22, 3) := by decide +kernel
theorem dX5_wall_43 : decode cX5_wall 43 = .ok (.iload 4, 2) := by decide +kernel
theorem dX5_wall_45 : decode cX5_wall 45 = .ok (.ifCond .ge 7, 3) := by decide +kernel
theorem dX5_wall_48 : decode cX5_wall 48 = .ok (.iconst 4, 1) := by decide +kernel
theorem dX5_wall_49 : decode cX5_wall 49 = .ok (.goto 11, 3) := by decide +kernel
theorem dX5_wall_52 : decode cX5_wall 52 = .ok (.aload 5, 2) := by decide +kernel
theorem dX5_wall_54 : decode cX5_wall 54 = .ok (.iload_n 3, 1) := by decide +kernel
theorem dX5_wall_55 : decode cX5_wall 55 = .ok (.iload 4, 2) := by decide +kernel
theorem dX5_wall_57 : decode cX5_wall 57 = .ok (.invokevirtual 58, 3) := by decide +kernel
theorem dX5_wall_60 : decode cX5_wall 60 = .ok (.istore 6, 2) := by decide +kernel
theorem dX5_wall_62 : decode cX5_wall 62 = .ok (.iload 6, 2) := by decide +kernel
theorem dX5_wall_64 : decode cX5_wall 64 = .ok (.ifCond .eq 10, 3) := by decide +kernel
theorem dX5_wall_67 : decode cX5_wall 67 = .ok (.aload_n 0, 1) := by decide +kernel
theorem dX5_wall_68 : decode cX5_wall 68 = .ok (.iload 6, 2) := by decide +kernel
theorem dX5_wall_70 : decode cX5_wall 70 = .ok (.invokevirtual 62, 3) := by decide +kernel
theorem dX5_wall_73 : decode cX5_wall 73 = .ok (.ireturn, 1) := by decide +kernel
theorem dX5_wall_74 : decode cX5_wall 74 = .ok (.aload 5, 2) := by decide +kernel
theorem dX5_wall_76 : decode cX5_wall 76 = .ok (.iload_n 3, 1) := by decide +kernel
theorem dX5_wall_77 : decode cX5_wall 77 = .ok (.iload 4, 2) := by decide +kernel
theorem dX5_wall_79 : decode cX5_wall 79 = .ok (.invokestatic 65, 3) := by decide +kernel
theorem dX5_wall_82 : decode cX5_wall 82 = .ok (.istore 7, 2) := by decide +kernel
theorem dX5_wall_84 : decode cX5_wall 84 = .ok (.iload 7, 2) := by decide +kernel
theorem dX5_wall_86 : decode cX5_wall 86 = .ok (.ifCond .lt 9, 3) := by decide +kernel
theorem dX5_wall_89 : decode cX5_wall 89 = .ok (.bipush (-100), 2) := by decide +kernel
theorem dX5_wall_91 : decode cX5_wall 91 = .ok (.iload 7, 2) := by decide +kernel
theorem dX5_wall_93 : decode cX5_wall 93 = .ok (.isub, 1) := by decide +kernel
theorem dX5_wall_94 : decode cX5_wall 94 = .ok (.ireturn, 1) := by decide +kernel
theorem dX5_wall_95 : decode cX5_wall 95 = .ok (.aload_n 0, 1) := by decide +kernel
theorem dX5_wall_96 : decode cX5_wall 96 = .ok (.getfield 12, 3) := by decide +kernel
theorem dX5_wall_99 : decode cX5_wall 99 = .ok (.aload 5, 2) := by decide +kernel
theorem dX5_wall_101 : decode cX5_wall 101 = .ok (.iload_n 3, 1) := by decide +kernel
theorem dX5_wall_102 : decode cX5_wall 102 = .ok (.iload 4, 2) := by decide +kernel
theorem dX5_wall_104 : decode cX5_wall 104 = .ok (.invokevirtual 69, 3) := by decide +kernel
theorem dX5_wall_107 : decode cX5_wall 107 = .ok (.aload_n 0, 1) := by decide +kernel
theorem dX5_wall_108 : decode cX5_wall 108 = .ok (.getfield 24, 3) := by decide +kernel
theorem dX5_wall_111 : decode cX5_wall 111 = .ok (.iconst 0, 1) := by decide +kernel
theorem dX5_wall_112 : decode cX5_wall 112 = .ok (.putfield 73, 3) := by decide +kernel
theorem dX5_wall_115 : decode cX5_wall 115 = .ok (.aload_n 0, 1) := by decide +kernel
theorem dX5_wall_116 : decode cX5_wall 116 = .ok (.getfield 12, 3) := by decide +kernel
theorem dX5_wall_119 : decode cX5_wall 119 = .ok (.getfield 76, 3) := by decide +kernel
theorem dX5_wall_122 : decode cX5_wall 122 = .ok (.ireturn, 1) := by decide +kernel
set_option maxRecDepth 20000 in
theorem ggX5_ofLayer_X4_layerAt : GoodIn wsX5_ofLayer wsX4_layerAt := goodIn_r _ [9, 10, 11, 45, 46, 47, 48] (by decide +kernel) (by decide +kernel)
set_option maxRecDepth 20000 in
theorem gX5_ofLayer_X4_layerAt : GoodIn wsX5_ofLayer (wsV RX5 77 RX4 yX4_layerAt wsX4_layerAt) := goodIn_app (goodIn_of _ (by decide +kernel)) ggX5_ofLayer_X4_layerAt
set_option maxRecDepth 20000 in
theorem ggX5_ofLayer_X0_grip : GoodIn wsX5_ofLayer wsX0_grip := goodIn_r _ [16, 17, 18, 42, 43, 44] (by decide +kernel) (by decide +kernel)
set_option maxRecDepth 20000 in
theorem gX5_ofLayer_X0_grip : GoodIn wsX5_ofLayer (wsV RX5 92 RX0 yX0_grip wsX0_grip) := goodIn_app (goodIn_of _ (by decide +kernel)) ggX5_ofLayer_X0_grip
set_option maxRecDepth 20000 in
theorem ggX5_ofLayer_X4_warmth : GoodIn wsX5_ofLayer wsX4_warmth := goodIn_r _ [22, 23, 24, 45, 46, 47, 48] (by decide +kernel) (by decide +kernel)
set_option maxRecDepth 20000 in
theorem gX5_ofLayer_X4_warmth : GoodIn wsX5_ofLayer (wsV RX5 96 RX4 yX4_warmth wsX4_warmth) := goodIn_app (goodIn_of _ (by decide +kernel)) ggX5_ofLayer_X4_warmth
set_option maxRecDepth 20000 in
theorem ggX5_ofLayer_X4_liftedBy : GoodIn wsX5_ofLayer wsX4_liftedBy := goodIn_r _ [28, 10, 11, 29, 13, 14, 15, 16, 17, 18, 45, 46, 47, 48, 42, 43, 44] (by decide +kernel) (by decide +kernel)
set_option maxRecDepth 20000 in
theorem gX5_ofLayer_X4_liftedBy : GoodIn wsX5_ofLayer (wsV RX5 99 RX4 yX4_liftedBy wsX4_liftedBy) := goodIn_app (goodIn_of _ (by decide +kernel)) ggX5_ofLayer_X4_liftedBy
set_option maxRecDepth 20000 in
theorem ggX5_ofLayer_X4_heardBy : GoodIn wsX5_ofLayer wsX4_heardBy := goodIn_r _ [33, 10, 11, 34, 29, 13, 14, 15, 16, 17, 18, 45, 46, 47, 48, 42, 43, 44] (by decide +kernel) (by decide +kernel)
set_option maxRecDepth 20000 in
theorem gX5_ofLayer_X4_heardBy : GoodIn wsX5_ofLayer (wsV RX5 102 RX4 yX4_heardBy wsX4_heardBy) := goodIn_app (goodIn_of _ (by decide +kernel)) ggX5_ofLayer_X4_heardBy
theorem dX5_ofLayer_0 : decode cX5_ofLayer 0 = .ok (.aload_n 0, 1) := by decide +kernel
theorem dX5_ofLayer_1 : decode cX5_ofLayer 1 = .ok (.getfield 12, 3) := by decide +kernel
theorem dX5_ofLayer_4 : decode cX5_ofLayer 4 = .ok (.iload_n 1, 1) := by decide +kernel
theorem dX5_ofLayer_5 : decode cX5_ofLayer 5 = .ok (.invokevirtual 77, 3) := by decide +kernel
theorem dX5_ofLayer_8 : decode cX5_ofLayer 8 = .ok (.astore_n 3, 1) := by decide +kernel
theorem dX5_ofLayer_9 : decode cX5_ofLayer 9 = .ok (.aload_n 3, 1) := by decide +kernel
theorem dX5_ofLayer_10 : decode cX5_ofLayer 10 = .ok (.ifnonnull 5, 3) := by decide +kernel
theorem dX5_ofLayer_13 : decode cX5_ofLayer 13 = .ok (.iconst (-1), 1) := by decide +kernel
theorem dX5_ofLayer_14 : decode cX5_ofLayer 14 = .ok (.ireturn, 1) := by decide +kernel
theorem dX5_ofLayer_15 : decode cX5_ofLayer 15 = .ok (.iload_n 2, 1) := by decide +kernel
theorem dX5_ofLayer_16 : decode cX5_ofLayer 16 = .ok (.tableswitch 108 0 5 #[40, 45, 50, 55, 60, 84], 40) := by decide +kernel
theorem dX5_ofLayer_56 : decode cX5_ofLayer 56 = .ok (.aload_n 3, 1) := by decide +kernel
theorem dX5_ofLayer_57 : decode cX5_ofLayer 57 = .ok (.getfield 81, 3) := by decide +kernel
theorem dX5_ofLayer_60 : decode cX5_ofLayer 60 = .ok (.ireturn, 1) := by decide +kernel
theorem dX5_ofLayer_61 : decode cX5_ofLayer 61 = .ok (.aload_n 3, 1) := by decide +kernel
theorem dX5_ofLayer_62 : decode cX5_ofLayer 62 = .ok (.getfield 86, 3) := by decide +kernel
theorem dX5_ofLayer_65 : decode cX5_ofLayer 65 = .ok (.ireturn, 1) := by decide +kernel
theorem dX5_ofLayer_66 : decode cX5_ofLayer 66 = .ok (.aload_n 3, 1) := by decide +kernel
theorem dX5_ofLayer_67 : decode cX5_ofLayer 67 = .ok (.getfield 89, 3) := by decide +kernel
theorem dX5_ofLayer_70 : decode cX5_ofLayer 70 = .ok (.ireturn, 1) := by decide +kernel
theorem dX5_ofLayer_71 : decode cX5_ofLayer 71 = .ok (.aload_n 3, 1) := by decide +kernel
theorem dX5_ofLayer_72 : decode cX5_ofLayer 72 = .ok (.invokevirtual 92, 3) := by decide +kernel
theorem dX5_ofLayer_75 : decode cX5_ofLayer 75 = .ok (.ireturn, 1) := by decide +kernel
theorem dX5_ofLayer_76 : decode cX5_ofLayer 76 = .ok (.iload_n 1, 1) := by decide +kernel
theorem dX5_ofLayer_77 : decode cX5_ofLayer 77 = .ok (.aload_n 0, 1) := by decide +kernel
theorem dX5_ofLayer_78 : decode cX5_ofLayer 78 = .ok (.getfield 12, 3) := by decide +kernel
theorem dX5_ofLayer_81 : decode cX5_ofLayer 81 = .ok (.aload_n 0, 1) := by decide +kernel
theorem dX5_ofLayer_82 : decode cX5_ofLayer 82 = .ok (.getfield 12, 3) := by decide +kernel
theorem dX5_ofLayer_85 : decode cX5_ofLayer 85 = .ok (.invokevirtual 96, 3) := by decide +kernel
theorem dX5_ofLayer_88 : decode cX5_ofLayer 88 = .ok (.invokevirtual 99, 3) := by decide +kernel
theorem dX5_ofLayer_91 : decode cX5_ofLayer 91 = .ok (.if_icmp .ge 7, 3) := by decide +kernel
theorem dX5_ofLayer_94 : decode cX5_ofLayer 94 = .ok (.iconst 1, 1) := by decide +kernel
theorem dX5_ofLayer_95 : decode cX5_ofLayer 95 = .ok (.goto 4, 3) := by decide +kernel
theorem dX5_ofLayer_98 : decode cX5_ofLayer 98 = .ok (.iconst 0, 1) := by decide +kernel
theorem dX5_ofLayer_99 : decode cX5_ofLayer 99 = .ok (.ireturn, 1) := by decide +kernel
theorem dX5_ofLayer_100 : decode cX5_ofLayer 100 = .ok (.iload_n 1, 1) := by decide +kernel
theorem dX5_ofLayer_101 : decode cX5_ofLayer 101 = .ok (.aload_n 0, 1) := by decide +kernel
theorem dX5_ofLayer_102 : decode cX5_ofLayer 102 = .ok (.getfield 12, 3) := by decide +kernel
theorem dX5_ofLayer_105 : decode cX5_ofLayer 105 = .ok (.aload_n 0, 1) := by decide +kernel
theorem dX5_ofLayer_106 : decode cX5_ofLayer 106 = .ok (.getfield 12, 3) := by decide +kernel
theorem dX5_ofLayer_109 : decode cX5_ofLayer 109 = .ok (.invokevirtual 96, 3) := by decide +kernel
theorem dX5_ofLayer_112 : decode cX5_ofLayer 112 = .ok (.invokevirtual 102, 3) := by decide +kernel
theorem dX5_ofLayer_115 : decode cX5_ofLayer 115 = .ok (.if_icmp .ge 7, 3) := by decide +kernel
theorem dX5_ofLayer_118 : decode cX5_ofLayer 118 = .ok (.iconst 1, 1) := by decide +kernel
theorem dX5_ofLayer_119 : decode cX5_ofLayer 119 = .ok (.goto 4, 3) := by decide +kernel
theorem dX5_ofLayer_122 : decode cX5_ofLayer 122 = .ok (.iconst 0, 1) := by decide +kernel
theorem dX5_ofLayer_123 : decode cX5_ofLayer 123 = .ok (.ireturn, 1) := by decide +kernel
theorem dX5_ofLayer_124 : decode cX5_ofLayer 124 = .ok (.bipush (-2), 2) := by decide +kernel
theorem dX5_ofLayer_126 : decode cX5_ofLayer 126 = .ok (.ireturn, 1) := by decide +kernel
set_option maxRecDepth 20000 in
theorem ggX5_heat_X5_isUpTo : GoodIn wsX5_heat wsX5_isUpTo := goodIn_r _ [6] (by decide +kernel) (by decide +kernel)
set_option maxRecDepth 20000 in
theorem gX5_heat_X5_isUpTo : GoodIn wsX5_heat (va_wsS RX5 50 yX5_isUpTo wsX5_isUpTo) := goodIn_app (goodIn_of _ (by decide +kernel)) ggX5_heat_X5_isUpTo
set_option maxRecDepth 20000 in
theorem ggX5_heat_X4_stands : GoodIn wsX5_heat wsX4_stands := goodIn_r _ [11, 12, 20, 21, 22, 23] (by decide +kernel) (by decide +kernel)
set_option maxRecDepth 20000 in
theorem gX5_heat_X4_stands : GoodIn wsX5_heat (wsV RX5 105 RX4 yX4_stands wsX4_stands) := goodIn_app (goodIn_of _ (by decide +kernel)) ggX5_heat_X4_stands
theorem dX5_heat_0 : decode cX5_heat 0 = .ok (.iload_n 1, 1) := by decide +kernel
theorem dX5_heat_1 : decode cX5_heat 1 = .ok (.bipush 20, 2) := by decide +kernel
theorem dX5_heat_3 : decode cX5_heat 3 = .ok (.invokestatic 50, 3) := by decide +kernel
theorem dX5_heat_6 : decode cX5_heat 6 = .ok (.ifCond .ne 6, 3) := by decide +kernel
theorem dX5_heat_9 : decode cX5_heat 9 = .ok (.bipush (-2), 2) := by decide +kernel
theorem dX5_heat_11 : decode cX5_heat 11 = .ok (.ireturn, 1) := by decide +kernel
theorem dX5_heat_12 : decode cX5_heat 12 = .ok (.aload_n 0, 1) := by decide +kernel
theorem dX5_heat_13 : decode cX5_heat 13 = .ok (.getfield 12, 3) := by decide +kernel
theorem dX5_heat_16 : decode cX5_heat 16 = .ok (.invokevirtual 105, 3) := by decide +kernel
theorem dX5_heat_19 : decode cX5_heat 19 = .ok (.ifCond .ne 6, 3) := by decide +kernel
theorem dX5_heat_22 : decode cX5_heat 22 = .ok (.bipush (-3), 2) := by decide +kernel
theorem dX5_heat_24 : decode cX5_heat 24 = .ok (.ireturn, 1) := by decide +kernel
theorem dX5_heat_25 : decode cX5_heat 25 = .ok (.aload_n 0, 1) := by decide +kernel
theorem dX5_heat_26 : decode cX5_heat 26 = .ok (.getfield 12, 3) := by decide +kernel
theorem dX5_heat_29 : decode cX5_heat 29 = .ok (.getfield 109, 3) := by decide +kernel
theorem dX5_heat_32 : decode cX5_heat 32 = .ok (.istore_n 2, 1) := by decide +kernel
theorem dX5_heat_33 : decode cX5_heat 33 = .ok (.aload_n 0, 1) := by decide +kernel
theorem dX5_heat_34 : decode cX5_heat 34 = .ok (.getfield 12, 3) := by decide +kernel
theorem dX5_heat_37 : decode cX5_heat 37 = .ok (.iload_n 1, 1) := by decide +kernel
theorem dX5_heat_38 : decode cX5_heat 38 = .ok (.putfield 109, 3) := by decide +kernel
theorem dX5_heat_41 : decode cX5_heat 41 = .ok (.iload_n 2, 1) := by decide +kernel
theorem dX5_heat_42 : decode cX5_heat 42 = .ok (.ireturn, 1) := by decide +kernel
set_option maxRecDepth 20000 in
theorem ggX5_wet_X5_isUpTo : GoodIn wsX5_wet wsX5_isUpTo := goodIn_r _ [6] (by decide +kernel) (by decide +kernel)
set_option maxRecDepth 20000 in
theorem gX5_wet_X5_isUpTo : GoodIn wsX5_wet (va_wsS RX5 50 yX5_isUpTo wsX5_isUpTo) := goodIn_app (goodIn_of _ (by decide +kernel)) ggX5_wet_X5_isUpTo
set_option maxRecDepth 20000 in
theorem ggX5_wet_X4_stands : GoodIn wsX5_wet wsX4_stands := goodIn_r _ [11, 12, 20, 21, 22, 23] (by decide +kernel) (by decide +kernel)
set_option maxRecDepth 20000 in
theorem gX5_wet_X4_stands : GoodIn wsX5_wet (wsV RX5 105 RX4 yX4_stands wsX4_stands) := goodIn_app (goodIn_of _ (by decide +kernel)) ggX5_wet_X4_stands
theorem dX5_wet_0 : decode cX5_wet 0 = .ok (.iload_n 1, 1) := by decide +kernel
theorem dX5_wet_1 : decode cX5_wet 1 = .ok (.bipush 9, 2) := by decide +kernel
theorem dX5_wet_3 : decode cX5_wet 3 = .ok (.invokestatic 50, 3) := by decide +kernel
theorem dX5_wet_6 : decode cX5_wet 6 = .ok (.ifCond .ne 6, 3) := by decide +kernel
theorem dX5_wet_9 : decode cX5_wet 9 = .ok (.bipush (-2), 2) := by decide +kernel
theorem dX5_wet_11 : decode cX5_wet 11 = .ok (.ireturn, 1) := by decide +kernel
theorem dX5_wet_12 : decode cX5_wet 12 = .ok (.aload_n 0, 1) := by decide +kernel
theorem dX5_wet_13 : decode cX5_wet 13 = .ok (.getfield 12, 3) := by decide +kernel
theorem dX5_wet_16 : decode cX5_wet 16 = .ok (.invokevirtual 105, 3) := by decide +kernel
theorem dX5_wet_19 : decode cX5_wet 19 = .ok (.ifCond .ne 6, 3) := by decide +kernel
theorem dX5_wet_22 : decode cX5_wet 22 = .ok (.bipush (-3), 2) := by decide +kernel
theorem dX5_wet_24 : decode cX5_wet 24 = .ok (.ireturn, 1) := by decide +kernel
theorem dX5_wet_25 : decode cX5_wet 25 = .ok (.aload_n 0, 1) := by decide +kernel
theorem dX5_wet_26 : decode cX5_wet 26 = .ok (.getfield 12, 3) := by decide +kernel
theorem dX5_wet_29 : decode cX5_wet 29 = .ok (.getfield 112, 3) := by decide +kernel
theorem dX5_wet_32 : decode cX5_wet 32 = .ok (.istore_n 2, 1) := by decide +kernel
theorem dX5_wet_33 : decode cX5_wet 33 = .ok (.aload_n 0, 1) := by decide +kernel
theorem dX5_wet_34 : decode cX5_wet 34 = .ok (.getfield 12, 3) := by decide +kernel
theorem dX5_wet_37 : decode cX5_wet 37 = .ok (.iload_n 1, 1) := by decide +kernel
theorem dX5_wet_38 : decode cX5_wet 38 = .ok (.putfield 112, 3) := by decide +kernel
theorem dX5_wet_41 : decode cX5_wet 41 = .ok (.iload_n 2, 1) := by decide +kernel
theorem dX5_wet_42 : decode cX5_wet 42 = .ok (.ireturn, 1) := by decide +kernel
set_option maxRecDepth 20000 in
theorem ggX5_paste_X4_layerAt : GoodIn wsX5_paste wsX4_layerAt := goodIn_r _ [7, 8, 9, 24, 25, 26, 27] (by decide +kernel) (by decide +kernel)
set_option maxRecDepth 20000 in
theorem gX5_paste_X4_layerAt : GoodIn wsX5_paste (wsV RX5 77 RX4 yX4_layerAt wsX4_layerAt) := goodIn_app (goodIn_of _ (by decide +kernel)) ggX5_paste_X4_layerAt
set_option maxRecDepth 20000 in
theorem ggX5_paste_X5_isUpTo : GoodIn wsX5_paste wsX5_isUpTo := goodIn_r _ [13] (by decide +kernel) (by decide +kernel)
set_option maxRecDepth 20000 in
theorem gX5_paste_X5_isUpTo : GoodIn wsX5_paste (va_wsS RX5 50 yX5_isUpTo wsX5_isUpTo) := goodIn_app (goodIn_of _ (by decide +kernel)) ggX5_paste_X5_isUpTo
theorem dX5_paste_0 : decode cX5_paste 0 = .ok (.aload_n 0, 1) := by decide +kernel
theorem dX5_paste_1 : decode cX5_paste 1 = .ok (.getfield 12, 3) := by decide +kernel
theorem dX5_paste_4 : decode cX5_paste 4 = .ok (.iload_n 1, 1) := by decide +kernel
theorem dX5_paste_5 : decode cX5_paste 5 = .ok (.invokevirtual 77, 3) := by decide +kernel
theorem dX5_paste_8 : decode cX5_paste 8 = .ok (.astore_n 3, 1) := by decide +kernel
theorem dX5_paste_9 : decode cX5_paste 9 = .ok (.aload_n 3, 1) := by decide +kernel
theorem dX5_paste_10 : decode cX5_paste 10 = .ok (.ifnonnull 5, 3) := by decide +kernel
theorem dX5_paste_13 : decode cX5_paste 13 = .ok (.iconst (-1), 1) := by decide +kernel
theorem dX5_paste_14 : decode cX5_paste 14 = .ok (.ireturn, 1) := by decide +kernel
theorem dX5_paste_15 : decode cX5_paste 15 = .ok (.iload_n 2, 1) := by decide +kernel
theorem dX5_paste_16 : decode cX5_paste 16 = .ok (.bipush 9, 2) := by decide +kernel
theorem dX5_paste_18 : decode cX5_paste 18 = .ok (.invokestatic 50, 3) := by decide +kernel
theorem dX5_paste_21 : decode cX5_paste 21 = .ok (.ifCond .ne 6, 3) := by decide +kernel
theorem dX5_paste_24 : decode cX5_paste 24 = .ok (.bipush (-2), 2) := by decide +kernel
theorem dX5_paste_26 : decode cX5_paste 26 = .ok (.ireturn, 1) := by decide +kernel
theorem dX5_paste_27 : decode cX5_paste 27 = .ok (.aload_n 3, 1) := by decide +kernel
theorem dX5_paste_28 : decode cX5_paste 28 = .ok (.getfield 86, 3) := by decide +kernel
theorem dX5_paste_31 : decode cX5_paste 31 = .ok (.istore 4, 2) := by decide +kernel
theorem dX5_paste_33 : decode cX5_paste 33 = .ok (.aload_n 3, 1) := by decide +kernel
theorem dX5_paste_34 : decode cX5_paste 34 = .ok (.iload_n 2, 1) := by decide +kernel
theorem dX5_paste_35 : decode cX5_paste 35 = .ok (.putfield 86, 3) := by decide +kernel
theorem dX5_paste_38 : decode cX5_paste 38 = .ok (.iload 4, 2) := by decide +kernel
theorem dX5_paste_40 : decode cX5_paste 40 = .ok (.ireturn, 1) := by decide +kernel
set_option maxRecDepth 20000 in
theorem ggX5_heard_X4_stands : GoodIn wsX5_heard wsX4_stands := goodIn_r _ [6, 7, 38, 39, 40, 41] (by decide +kernel) (by decide +kernel)
set_option maxRecDepth 20000 in
theorem gX5_heard_X4_stands : GoodIn wsX5_heard (wsV RX5 105 RX4 yX4_stands wsX4_stands) := goodIn_app (goodIn_of _ (by decide +kernel)) ggX5_heard_X4_stands
set_option maxRecDepth 20000 in
theorem ggX5_heard_X4_warmth : GoodIn wsX5_heard wsX4_warmth := goodIn_r _ [11, 12, 13, 38, 39, 40, 41] (by decide +kernel) (by decide +kernel)
set_option maxRecDepth 20000 in
theorem gX5_heard_X4_warmth : GoodIn wsX5_heard (wsV RX5 96 RX4 yX4_warmth wsX4_warmth) := goodIn_app (goodIn_of _ (by decide +kernel)) ggX5_heard_X4_warmth
set_option maxRecDepth 20000 in
theorem ggX5_heard_X4_heardBy : GoodIn wsX5_heard wsX4_heardBy := goodIn_r _ [17, 7, 18, 19, 20, 21, 22, 23, 24, 25, 26, 38, 39, 40, 41, 42, 43, 44] (by decide +kernel) (by decide +kernel)
set_option maxRecDepth 20000 in
theorem gX5_heard_X4_heardBy : GoodIn wsX5_heard (wsV RX5 102 RX4 yX4_heardBy wsX4_heardBy) := goodIn_app (goodIn_of _ (by decide +kernel)) ggX5_heard_X4_heardBy
set_option maxRecDepth 20000 in
theorem ggX5_heard_X5_setOfFirst : GoodIn wsX5_heard wsX5_setOfFirst := goodIn_r _ [30] (by decide +kernel) (by decide +kernel)
set_option maxRecDepth 20000 in
theorem gX5_heard_X5_setOfFirst : GoodIn wsX5_heard (va_wsS RX5 115 yX5_setOfFirst wsX5_setOfFirst) := goodIn_app (goodIn_of _ (by decide +kernel)) ggX5_heard_X5_setOfFirst
theorem dX5_heard_0 : decode cX5_heard 0 = .ok (.aload_n 0, 1) := by decide +kernel
theorem dX5_heard_1 : decode cX5_heard 1 = .ok (.getfield 12, 3) := by decide +kernel
theorem dX5_heard_4 : decode cX5_heard 4 = .ok (.invokevirtual 105, 3) := by decide +kernel
theorem dX5_heard_7 : decode cX5_heard 7 = .ok (.ifCond .eq 23, 3) := by decide +kernel
theorem dX5_heard_10 : decode cX5_heard 10 = .ok (.aload_n 0, 1) := by decide +kernel
theorem dX5_heard_11 : decode cX5_heard 11 = .ok (.getfield 12, 3) := by decide +kernel
theorem dX5_heard_14 : decode cX5_heard 14 = .ok (.aload_n 0, 1) := by decide +kernel
theorem dX5_heard_15 : decode cX5_heard 15 = .ok (.getfield 12, 3) := by decide +kernel
theorem dX5_heard_18 : decode cX5_heard 18 = .ok (.invokevirtual 96, 3) := by decide +kernel
theorem dX5_heard_21 : decode cX5_heard 21 = .ok (.invokevirtual 102, 3) := by decide +kernel
theorem dX5_heard_24 : decode cX5_heard 24 = .ok (.invokestatic 115, 3) := by decide +kernel
theorem dX5_heard_27 : decode cX5_heard 27 = .ok (.goto 5, 3) := by decide +kernel
theorem dX5_heard_30 : decode cX5_heard 30 = .ok (.bipush (-3), 2) := by decide +kernel
theorem dX5_heard_32 : decode cX5_heard 32 = .ok (.ireturn, 1) := by decide +kernel
set_option maxRecDepth 20000 in
theorem ggX5_counsel_X5_isUpTo : GoodIn wsX5_counsel wsX5_isUpTo := goodIn_r _ [5] (by decide +kernel) (by decide +kernel)
set_option maxRecDepth 20000 in
theorem gX5_counsel_X5_isUpTo : GoodIn wsX5_counsel (va_wsS RX5 50 yX5_isUpTo wsX5_isUpTo) := goodIn_app (goodIn_of _ (by decide +kernel)) ggX5_counsel_X5_isUpTo
set_option maxRecDepth 20000 in
theorem ggX5_counsel_X4_stands : GoodIn wsX5_counsel wsX4_stands := goodIn_r _ [10, 11, 44, 45, 46, 47] (by decide +kernel) (by decide +kernel)
set_option maxRecDepth 20000 in
theorem gX5_counsel_X4_stands : GoodIn wsX5_counsel (wsV RX5 105 RX4 yX4_stands wsX4_stands) := goodIn_app (goodIn_of _ (by decide +kernel)) ggX5_counsel_X4_stands
set_option maxRecDepth 20000 in
theorem ggX5_counsel_X4_counselBy : GoodIn wsX5_counsel wsX4_counselBy := goodIn_r _ [15, 16, 17, 18, 19, 20, 9, 21, 11, 22, 23, 24, 25, 26, 27, 28, 29, 30, 31, 32, 33, 34, 35, 36, 44, 45, 46, 47, 48, 49, 50] (by decide +kernel) (by decide +kernel)
set_option maxRecDepth 20000 in
theorem gX5_counsel_X4_counselBy : GoodIn wsX5_counsel (wsV RX5 118 RX4 yX4_counselBy wsX4_counselBy) := goodIn_app (goodIn_of _ (by decide +kernel)) ggX5_counsel_X4_counselBy
theorem dX5_counsel_0 : decode cX5_counsel 0 = .ok (.iload_n 1, 1) := by decide +kernel
theorem dX5_counsel_1 : decode cX5_counsel 1 = .ok (.bipush 20, 2) := by decide +kernel
theorem dX5_counsel_3 : decode cX5_counsel 3 = .ok (.invokestatic 50, 3) := by decide +kernel
theorem dX5_counsel_6 : decode cX5_counsel 6 = .ok (.ifCond .eq 12, 3) := by decide +kernel
theorem dX5_counsel_9 : decode cX5_counsel 9 = .ok (.iload_n 2, 1) := by decide +kernel
theorem dX5_counsel_10 : decode cX5_counsel 10 = .ok (.bipush 9, 2) := by decide +kernel
theorem dX5_counsel_12 : decode cX5_counsel 12 = .ok (.invokestatic 50, 3) := by decide +kernel
theorem dX5_counsel_15 : decode cX5_counsel 15 = .ok (.ifCond .ne 6, 3) := by decide +kernel
theorem dX5_counsel_18 : decode cX5_counsel 18 = .ok (.bipush (-2), 2) := by decide +kernel
theorem dX5_counsel_20 : decode cX5_counsel 20 = .ok (.ireturn, 1) := by decide +kernel
theorem dX5_counsel_21 : decode cX5_counsel 21 = .ok (.aload_n 0, 1) := by decide +kernel
theorem dX5_counsel_22 : decode cX5_counsel 22 = .ok (.getfield 12, 3) := by decide +kernel
theorem dX5_counsel_25 : decode cX5_counsel 25 = .ok (.invokevirtual 105, 3) := by decide +kernel
theorem dX5_counsel_28 : decode cX5_counsel 28 = .ok (.ifCond .eq 16, 3) := by decide +kernel
theorem dX5_counsel_31 : decode cX5_counsel 31 = .ok (.aload_n 0, 1) := by decide +kernel
theorem dX5_counsel_32 : decode cX5_counsel 32 = .ok (.getfield 12, 3) := by decide +kernel
theorem dX5_counsel_35 : decode cX5_counsel 35 = .ok (.iload_n 1, 1) := by decide +kernel
theorem dX5_counsel_36 : decode cX5_counsel 36 = .ok (.iload_n 2, 1) := by decide +kernel
theorem dX5_counsel_37 : decode cX5_counsel 37 = .ok (.isub, 1) := by decide +kernel
theorem dX5_counsel_38 : decode cX5_counsel 38 = .ok (.invokevirtual 118, 3) := by decide +kernel
theorem dX5_counsel_41 : decode cX5_counsel 41 = .ok (.goto 5, 3) := by decide +kernel
theorem dX5_counsel_44 : decode cX5_counsel 44 = .ok (.bipush (-3), 2) := by decide +kernel
theorem dX5_counsel_46 : decode cX5_counsel 46 = .ok (.ireturn, 1) := by decide +kernel
set_option maxRecDepth 20000 in
theorem ggX5_clash_X5_isUpTo : GoodIn wsX5_clash wsX5_isUpTo := goodIn_r _ [5] (by decide +kernel) (by decide +kernel)
set_option maxRecDepth 20000 in
theorem gX5_clash_X5_isUpTo : GoodIn wsX5_clash (va_wsS RX5 50 yX5_isUpTo wsX5_isUpTo) := goodIn_app (goodIn_of _ (by decide +kernel)) ggX5_clash_X5_isUpTo
set_option maxRecDepth 20000 in
theorem ggX5_clash_X4_stands : GoodIn wsX5_clash wsX4_stands := goodIn_r _ [10, 11, 58, 59, 60, 61] (by decide +kernel) (by decide +kernel)
set_option maxRecDepth 20000 in
theorem gX5_clash_X4_stands : GoodIn wsX5_clash (wsV RX5 105 RX4 yX4_stands wsX4_stands) := goodIn_app (goodIn_of _ (by decide +kernel)) ggX5_clash_X4_stands
set_option maxRecDepth 20000 in
theorem ggX5_clash_X4_warmth : GoodIn wsX5_clash wsX4_warmth := goodIn_r _ [15, 16, 17, 58, 59, 60, 61] (by decide +kernel) (by decide +kernel)
set_option maxRecDepth 20000 in
theorem gX5_clash_X4_warmth : GoodIn wsX5_clash (wsV RX5 96 RX4 yX4_warmth wsX4_warmth) := goodIn_app (goodIn_of _ (by decide +kernel)) ggX5_clash_X4_warmth
set_option maxRecDepth 20000 in
theorem ggX5_clash_X4_heardBy : GoodIn wsX5_clash wsX4_heardBy := goodIn_r _ [21, 11, 22, 23, 24, 25, 26, 27, 28, 29, 30, 58, 59, 60, 61, 62, 63, 64] (by decide +kernel) (by decide +kernel)
set_option maxRecDepth 20000 in
theorem gX5_clash_X4_heardBy : GoodIn wsX5_clash (wsV RX5 102 RX4 yX4_heardBy wsX4_heardBy) := goodIn_app (goodIn_of _ (by decide +kernel)) ggX5_clash_X4_heardBy
set_option maxRecDepth 20000 in
theorem ggX5_clash_X4_unlikeTwos : GoodIn wsX5_clash wsX4_unlikeTwos := goodIn_r _ [34, 22, 35, 58, 59, 60, 61, 62, 63, 64] (by decide +kernel) (by decide +kernel)
set_option maxRecDepth 20000 in
theorem gX5_clash_X4_unlikeTwos : GoodIn wsX5_clash (wsV RX5 121 RX4 yX4_unlikeTwos wsX4_unlikeTwos) := goodIn_app (goodIn_of _ (by decide +kernel)) ggX5_clash_X4_unlikeTwos
set_option maxRecDepth 20000 in
theorem ggX5_clash_X4_mostAlike : GoodIn wsX5_clash wsX4_mostAlike := goodIn_r _ [39, 22, 35, 40, 41, 42, 43, 44, 45, 46, 9, 47, 48, 49, 50, 58, 59, 60, 61, 62, 63, 64] (by decide +kernel) (by decide +kernel)
set_option maxRecDepth 20000 in
theorem gX5_clash_X4_mostAlike : GoodIn wsX5_clash (wsV RX5 124 RX4 yX4_mostAlike wsX4_mostAlike) := goodIn_app (goodIn_of _ (by decide +kernel)) ggX5_clash_X4_mostAlike
theorem dX5_clash_0 : decode cX5_clash 0 = .ok (.iload_n 1, 1) := by decide +kernel
theorem dX5_clash_1 : decode cX5_clash 1 = .ok (.iconst 1, 1) := by decide +kernel
theorem dX5_clash_2 : decode cX5_clash 2 = .ok (.invokestatic 50, 3) := by decide +kernel
theorem dX5_clash_5 : decode cX5_clash 5 = .ok (.ifCond .ne 6, 3) := by decide +kernel
theorem dX5_clash_8 : decode cX5_clash 8 = .ok (.bipush (-2), 2) := by decide +kernel
theorem dX5_clash_10 : decode cX5_clash 10 = .ok (.ireturn, 1) := by decide +kernel
theorem dX5_clash_11 : decode cX5_clash 11 = .ok (.aload_n 0, 1) := by decide +kernel
theorem dX5_clash_12 : decode cX5_clash 12 = .ok (.getfield 12, 3) := by decide +kernel
theorem dX5_clash_15 : decode cX5_clash 15 = .ok (.invokevirtual 105, 3) := by decide +kernel
theorem dX5_clash_18 : decode cX5_clash 18 = .ok (.ifCond .ne 6, 3) := by decide +kernel
theorem dX5_clash_21 : decode cX5_clash 21 = .ok (.bipush (-3), 2) := by decide +kernel
theorem dX5_clash_23 : decode cX5_clash 23 = .ok (.ireturn, 1) := by decide +kernel
theorem dX5_clash_24 : decode cX5_clash 24 = .ok (.aload_n 0, 1) := by decide +kernel
theorem dX5_clash_25 : decode cX5_clash 25 = .ok (.getfield 12, 3) := by decide +kernel
theorem dX5_clash_28 : decode cX5_clash 28 = .ok (.aload_n 0, 1) := by decide +kernel
theorem dX5_clash_29 : decode cX5_clash 29 = .ok (.getfield 12, 3) := by decide +kernel
theorem dX5_clash_32 : decode cX5_clash 32 = .ok (.invokevirtual 96, 3) := by decide +kernel
theorem dX5_clash_35 : decode cX5_clash 35 = .ok (.invokevirtual 102, 3) := by decide +kernel
theorem dX5_clash_38 : decode cX5_clash 38 = .ok (.istore_n 2, 1) := by decide +kernel
theorem dX5_clash_39 : decode cX5_clash 39 = .ok (.iload_n 1, 1) := by decide +kernel
theorem dX5_clash_40 : decode cX5_clash 40 = .ok (.ifCond .ne 14, 3) := by decide +kernel
theorem dX5_clash_43 : decode cX5_clash 43 = .ok (.aload_n 0, 1) := by decide +kernel
theorem dX5_clash_44 : decode cX5_clash 44 = .ok (.getfield 12, 3) := by decide +kernel
theorem dX5_clash_47 : decode cX5_clash 47 = .ok (.iload_n 2, 1) := by decide +kernel
theorem dX5_clash_48 : decode cX5_clash 48 = .ok (.invokevirtual 121, 3) := by decide +kernel
theorem dX5_clash_51 : decode cX5_clash 51 = .ok (.goto 13, 3) := by decide +kernel
theorem dX5_clash_54 : decode cX5_clash 54 = .ok (.iload_n 2, 1) := by decide +kernel
theorem dX5_clash_55 : decode cX5_clash 55 = .ok (.aload_n 0, 1) := by decide +kernel
theorem dX5_clash_56 : decode cX5_clash 56 = .ok (.getfield 12, 3) := by decide +kernel
theorem dX5_clash_59 : decode cX5_clash 59 = .ok (.iload_n 2, 1) := by decide +kernel
theorem dX5_clash_60 : decode cX5_clash 60 = .ok (.invokevirtual 124, 3) := by decide +kernel
theorem dX5_clash_63 : decode cX5_clash 63 = .ok (.isub, 1) := by decide +kernel
theorem dX5_clash_64 : decode cX5_clash 64 = .ok (.ireturn, 1) := by decide +kernel
set_option maxRecDepth 20000 in
theorem ggX5_putUp_X5_isUpTo : GoodIn wsX5_putUp wsX5_isUpTo := goodIn_r _ [6] (by decide +kernel) (by decide +kernel)
set_option maxRecDepth 20000 in
theorem gX5_putUp_X5_isUpTo : GoodIn wsX5_putUp (va_wsS RX5 50 yX5_isUpTo wsX5_isUpTo) := goodIn_app (goodIn_of _ (by decide +kernel)) ggX5_putUp_X5_isUpTo
set_option maxRecDepth 20000 in
theorem ggX5_putUp_X4_stands : GoodIn wsX5_putUp wsX4_stands := goodIn_r _ [11, 12, 38, 39, 40, 41] (by decide +kernel) (by decide +kernel)
set_option maxRecDepth 20000 in
theorem gX5_putUp_X4_stands : GoodIn wsX5_putUp (wsV RX5 105 RX4 yX4_stands wsX4_stands) := goodIn_app (goodIn_of _ (by decide +kernel)) ggX5_putUp_X4_stands
set_option maxRecDepth 20000 in
theorem ggX5_putUp_X4_layOnTop : GoodIn wsX5_putUp wsX4_layOnTop := goodIn_r _ [16, 12, 17, 18, 19, 20, 21, 22, 23, 24, 25, 26, 27, 28, 29, 30, 38, 39, 40, 41, 42, 43, 44] (by decide +kernel) (by decide +kernel)
set_option maxRecDepth 20000 in
theorem gX5_putUp_X4_layOnTop : GoodIn wsX5_putUp (wsV RX5 127 RX4 yX4_layOnTop wsX4_layOnTop) := goodIn_app (goodIn_of _ (by decide +kernel)) ggX5_putUp_X4_layOnTop
theorem dX5_putUp_0 : decode cX5_putUp 0 = .ok (.iload_n 1, 1) := by decide +kernel
theorem dX5_putUp_1 : decode cX5_putUp 1 = .ok (.iconst 2, 1) := by decide +kernel
theorem dX5_putUp_2 : decode cX5_putUp 2 = .ok (.invokestatic 50, 3) := by decide +kernel
theorem dX5_putUp_5 : decode cX5_putUp 5 = .ok (.ifCond .eq 21, 3) := by decide +kernel
theorem dX5_putUp_8 : decode cX5_putUp 8 = .ok (.iload_n 2, 1) := by decide +kernel
theorem dX5_putUp_9 : decode cX5_putUp 9 = .ok (.bipush 9, 2) := by decide +kernel
theorem dX5_putUp_11 : decode cX5_putUp 11 = .ok (.invokestatic 50, 3) := by decide +kernel
theorem dX5_putUp_14 : decode cX5_putUp 14 = .ok (.ifCond .eq 12, 3) := by decide +kernel
theorem dX5_putUp_17 : decode cX5_putUp 17 = .ok (.iload_n 3, 1) := by decide +kernel
theorem dX5_putUp_18 : decode cX5_putUp 18 = .ok (.bipush 9, 2) := by decide +kernel
theorem dX5_putUp_20 : decode cX5_putUp 20 = .ok (.invokestatic 50, 3) := by decide +kernel
theorem dX5_putUp_23 : decode cX5_putUp 23 = .ok (.ifCond .ne 6, 3) := by decide +kernel
theorem dX5_putUp_26 : decode cX5_putUp 26 = .ok (.bipush (-2), 2) := by decide +kernel
theorem dX5_putUp_28 : decode cX5_putUp 28 = .ok (.ireturn, 1) := by decide +kernel
theorem dX5_putUp_29 : decode cX5_putUp 29 = .ok (.aload_n 0, 1) := by decide +kernel
theorem dX5_putUp_30 : decode cX5_putUp 30 = .ok (.getfield 12, 3) := by decide +kernel
theorem dX5_putUp_33 : decode cX5_putUp 33 = .ok (.invokevirtual 105, 3) := by decide +kernel
theorem dX5_putUp_36 : decode cX5_putUp 36 = .ok (.ifCond .ne 6, 3) := by decide +kernel
theorem dX5_putUp_39 : decode cX5_putUp 39 = .ok (.bipush (-3), 2) := by decide +kernel
theorem dX5_putUp_41 : decode cX5_putUp 41 = .ok (.ireturn, 1) := by decide +kernel
theorem dX5_putUp_42 : decode cX5_putUp 42 = .ok (.aload_n 0, 1) := by decide +kernel
theorem dX5_putUp_43 : decode cX5_putUp 43 = .ok (.getfield 12, 3) := by decide +kernel
theorem dX5_putUp_46 : decode cX5_putUp 46 = .ok (.iload_n 1, 1) := by decide +kernel
theorem dX5_putUp_47 : decode cX5_putUp 47 = .ok (.iload_n 2, 1) := by decide +kernel
theorem dX5_putUp_48 : decode cX5_putUp 48 = .ok (.iload_n 3, 1) := by decide +kernel
theorem dX5_putUp_49 : decode cX5_putUp 49 = .ok (.invokevirtual 127, 3) := by decide +kernel
theorem dX5_putUp_52 : decode cX5_putUp 52 = .ok (.ifCond .eq 13, 3) := by decide +kernel
theorem dX5_putUp_55 : decode cX5_putUp 55 = .ok (.aload_n 0, 1) := by decide +kernel
theorem dX5_putUp_56 : decode cX5_putUp 56 = .ok (.getfield 12, 3) := by decide +kernel
theorem dX5_putUp_59 : decode cX5_putUp 59 = .ok (.getfield 76, 3) := by decide +kernel
theorem dX5_putUp_62 : decode cX5_putUp 62 = .ok (.goto 5, 3) := by decide +kernel
theorem dX5_putUp_65 : decode cX5_putUp 65 = .ok (.bipush (-4), 2) := by decide +kernel
theorem dX5_putUp_67 : decode cX5_putUp 67 = .ok (.ireturn, 1) := by decide +kernel
set_option maxRecDepth 20000 in
theorem ggX5_peel_X4_layerAt : GoodIn wsX5_peel wsX4_layerAt := goodIn_r _ [7, 8, 9, 50, 51, 52, 53] (by decide +kernel) (by decide +kernel)
set_option maxRecDepth 20000 in
theorem gX5_peel_X4_layerAt : GoodIn wsX5_peel (wsV RX5 77 RX4 yX4_layerAt wsX4_layerAt) := goodIn_app (goodIn_of _ (by decide +kernel)) ggX5_peel_X4_layerAt
set_option maxRecDepth 20000 in
theorem ggX5_peel_X4_peelTop : GoodIn wsX5_peel wsX4_peelTop := goodIn_r _ [13, 8, 9, 14, 15, 16, 6, 17, 18, 19, 20, 21, 22, 23, 24, 25, 26, 27, 28, 29, 30, 31, 32, 33, 34, 35, 36, 37, 38, 39, 50, 51, 52, 53, 47, 48, 49] (by decide +kernel) (by decide +kernel)
set_option maxRecDepth 20000 in
theorem gX5_peel_X4_peelTop : GoodIn wsX5_peel (wsV RX5 131 RX4 yX4_peelTop wsX4_peelTop) := goodIn_app (goodIn_of _ (by decide +kernel)) ggX5_peel_X4_peelTop
theorem dX5_peel_0 : decode cX5_peel 0 = .ok (.aload_n 0, 1) := by decide +kernel
theorem dX5_peel_1 : decode cX5_peel 1 = .ok (.getfield 12, 3) := by decide +kernel
theorem dX5_peel_4 : decode cX5_peel 4 = .ok (.iconst 0, 1) := by decide +kernel
theorem dX5_peel_5 : decode cX5_peel 5 = .ok (.invokevirtual 77, 3) := by decide +kernel
theorem dX5_peel_8 : decode cX5_peel 8 = .ok (.astore_n 1, 1) := by decide +kernel
theorem dX5_peel_9 : decode cX5_peel 9 = .ok (.aload_n 1, 1) := by decide +kernel
theorem dX5_peel_10 : decode cX5_peel 10 = .ok (.ifnonnull 6, 3) := by decide +kernel
theorem dX5_peel_13 : decode cX5_peel 13 = .ok (.bipush (-3), 2) := by decide +kernel
theorem dX5_peel_15 : decode cX5_peel 15 = .ok (.ireturn, 1) := by decide +kernel
theorem dX5_peel_16 : decode cX5_peel 16 = .ok (.aload_n 1, 1) := by decide +kernel
theorem dX5_peel_17 : decode cX5_peel 17 = .ok (.getfield 89, 3) := by decide +kernel
theorem dX5_peel_20 : decode cX5_peel 20 = .ok (.istore_n 2, 1) := by decide +kernel
theorem dX5_peel_21 : decode cX5_peel 21 = .ok (.aload_n 0, 1) := by decide +kernel
theorem dX5_peel_22 : decode cX5_peel 22 = .ok (.getfield 12, 3) := by decide +kernel
theorem dX5_peel_25 : decode cX5_peel 25 = .ok (.invokevirtual 131, 3) := by decide +kernel
theorem dX5_peel_28 : decode cX5_peel 28 = .ok (.ifCond .eq 7, 3) := by decide +kernel
theorem dX5_peel_31 : decode cX5_peel 31 = .ok (.iload_n 2, 1) := by decide +kernel
theorem dX5_peel_32 : decode cX5_peel 32 = .ok (.goto 5, 3) := by decide +kernel
theorem dX5_peel_35 : decode cX5_peel 35 = .ok (.bipush (-3), 2) := by decide +kernel
theorem dX5_peel_37 : decode cX5_peel 37 = .ok (.ireturn, 1) := by decide +kernel
set_option maxRecDepth 20000 in
theorem ggX5_days_X5_sheetAt : GoodIn wsX5_days wsX5_sheetAt := goodIn_r _ [7, 8, 9, 10, 6, 11, 138, 139, 140, 141, 142, 143, 144] (by decide +kernel) (by decide +kernel)
set_option maxRecDepth 20000 in
theorem gX5_days_X5_sheetAt : GoodIn wsX5_days (wsV RX5 46 RX5 yX5_sheetAt wsX5_sheetAt) := goodIn_app (goodIn_of _ (by decide +kernel)) ggX5_days_X5_sheetAt
set_option maxRecDepth 20000 in
theorem ggX5_days_X5_isUpTo : GoodIn wsX5_days wsX5_isUpTo := goodIn_r _ [11] (by decide +kernel) (by decide +kernel)
set_option maxRecDepth 20000 in
theorem gX5_days_X5_isUpTo : GoodIn wsX5_days (va_wsS RX5 50 yX5_isUpTo wsX5_isUpTo) := goodIn_app (goodIn_of _ (by decide +kernel)) ggX5_days_X5_isUpTo
set_option maxRecDepth 20000 in
theorem ggX5_days_X3_faultAsLane : GoodIn wsX5_days wsX3_faultAsLane := goodIn_r _ [16, 17, 18, 145, 146, 147, 148] (by decide +kernel) (by decide +kernel)
set_option maxRecDepth 20000 in
theorem gX5_days_X3_faultAsLane : GoodIn wsX5_days (wsV RX5 54 RX3 yX3_faultAsLane wsX3_faultAsLane) := goodIn_app (goodIn_of _ (by decide +kernel)) ggX5_days_X3_faultAsLane
set_option maxRecDepth 20000 in
theorem ggX5_days_X3_faultOfCells : GoodIn wsX5_days wsX3_faultOfCells := goodIn_r _ [22, 17, 23, 145, 146, 147, 148] (by decide +kernel) (by decide +kernel)
set_option maxRecDepth 20000 in
theorem gX5_days_X3_faultOfCells : GoodIn wsX5_days (wsV RX5 58 RX3 yX3_faultOfCells wsX3_faultOfCells) := goodIn_app (goodIn_of _ (by decide +kernel)) ggX5_days_X3_faultOfCells
set_option maxRecDepth 20000 in
theorem ggX5_days_X5_failed : GoodIn wsX5_days wsX5_failed := goodIn_r _ [27, 1, 138, 139, 140, 141, 142, 143, 144] (by decide +kernel) (by decide +kernel)
set_option maxRecDepth 20000 in
theorem gX5_days_X5_failed : GoodIn wsX5_days (wsV RX5 62 RX5 yX5_failed wsX5_failed) := goodIn_app (goodIn_of _ (by decide +kernel)) ggX5_days_X5_failed
set_option maxRecDepth 20000 in
theorem ggX5_days_X4_stands : GoodIn wsX5_days wsX4_stands := goodIn_r _ [32, 33, 149, 150, 151, 152] (by decide +kernel) (by decide +kernel)
set_option maxRecDepth 20000 in
theorem gX5_days_X4_stands : GoodIn wsX5_days (wsV RX5 105 RX4 yX4_stands wsX4_stands) := goodIn_app (goodIn_of _ (by decide +kernel)) ggX5_days_X4_stands
set_option maxRecDepth 20000 in
theorem ggX5_days_X5_areActs : GoodIn wsX5_days wsX5_areActs := goodIn_r _ [36, 37, 38, 39, 15, 40, 23, 41, 42, 43, 6, 44, 9, 10, 11, 145, 146, 147, 148] (by decide +kernel) (by decide +kernel)
set_option maxRecDepth 20000 in
theorem gX5_days_X5_areActs : GoodIn wsX5_days (va_wsS RX5 134 yX5_areActs wsX5_areActs) := goodIn_app (goodIn_of _ (by decide +kernel)) ggX5_days_X5_areActs
set_option maxRecDepth 20000 in
theorem ggX5_days_X5_afterDays : GoodIn wsX5_days wsX5_afterDays := goodIn_r _ [48, 49, 2, 50, 51, 52, 53, 31, 54, 55, 56, 57, 58, 59, 60, 33, 61, 62, 63, 64, 65, 66, 67, 68, 69, 70, 71, 72, 73, 74, 75, 76, 77, 78, 79, 80, 81, 82, 83, 84, 85, 86, 87, 88, 37, 38, 39, 15, 40, 23, 41, 89, 90, 91, 92, 93, 94, 95, 96, 97, 98, 99, 100, 101, 102, 103, 104, 105, 106, 107, 108, 109, 110, 111, 112, 113, 114, 115, 116, 117, 118, 119, 120, 121, 122, 123, 124, 125, 126, 127, 128, 129, 130, 131, 132, 133, 134, 135, 136, 6, 137, 138, 139, 140, 141, 142, 143, 144, 149, 150, 151, 152, 153, 154, 155, 145, 146, 147, 148] (by decide +kernel) (by decide +kernel)
set_option maxRecDepth 20000 in
theorem gX5_days_X5_afterDays : GoodIn wsX5_days (wsV RX5 138 RX5 yX5_afterDays wsX5_afterDays) := goodIn_app (goodIn_of _ (by decide +kernel)) ggX5_days_X5_afterDays
theorem dX5_days_0 : decode cX5_days 0 = .ok (.aload_n 0, 1) := by decide +kernel
theorem dX5_days_1 : decode cX5_days 1 = .ok (.iconst 0, 1) := by decide +kernel
theorem dX5_days_2 : decode cX5_days 2 = .ok (.putfield 42, 3) := by decide +kernel
theorem dX5_days_5 : decode cX5_days 5 = .ok (.aload_n 0, 1) := by decide +kernel
theorem dX5_days_6 : decode cX5_days 6 = .ok (.iload_n 1, 1) := by decide +kernel
theorem dX5_days_7 : decode cX5_days 7 = .ok (.invokevirtual 46, 3) := by decide +kernel
theorem dX5_days_10 : decode cX5_days 10 = .ok (.astore 6, 2) := by decide +kernel
theorem dX5_days_12 : decode cX5_days 12 = .ok (.aload 6, 2) := by decide +kernel
theorem dX5_days_14 : decode cX5_days 14 = .ok (.ifnonnull 5, 3) := by decide +kernel
theorem dX5_days_17 : decode cX5_days 17 = .ok (.iconst (-1), 1) := by decide +kernel
theorem dX5_days_18 : decode cX5_days 18 = .ok (.ireturn, 1) := by decide +kernel
theorem dX5_days_19 : decode cX5_days 19 = .ok (.iload_n 2, 1) := by decide +kernel
theorem dX5_days_20 : decode cX5_days 20 = .ok (.iconst 2, 1) := by decide +kernel
theorem dX5_days_21 : decode cX5_days 21 = .ok (.invokestatic 50, 3) := by decide +kernel
theorem dX5_days_24 : decode cX5_days 24 = .ok (.ifCond .eq 22, 3) := by decide +kernel
theorem dX5_days_27 : decode cX5_days 27 = .ok (.iload 4, 2) := by decide +kernel
theorem dX5_days_29 : decode cX5_days 29 = .ok (.bipush 20, 2) := by decide +kernel
theorem dX5_days_31 : decode cX5_days 31 = .ok (.invokestatic 50, 3) := by decide +kernel
theorem dX5_days_34 : decode cX5_days 34 = .ok (.ifCond .eq 12, 3) := by decide +kernel
theorem dX5_days_37 : decode cX5_days 37 = .ok (.iload 5, 2) := by decide +kernel
theorem dX5_days_39 : decode cX5_days 39 = .ok (.iconst 4, 1) := by decide +kernel
theorem dX5_days_40 : decode cX5_days 40 = .ok (.invokestatic 50, 3) := by decide +kernel
theorem dX5_days_43 : decode cX5_days 43 = .ok (.ifCond .ne 6, 3) := by decide +kernel
theorem dX5_days_46 : decode cX5_days 46 = .ok (.bipush (-2), 2) := by decide +kernel
theorem dX5_days_48 : decode cX5_days 48 = .ok (.ireturn, 1) := by decide +kernel
theorem dX5_days_49 : decode cX5_days 49 = .ok (.aload 6, 2) := by decide +kernel
theorem dX5_days_51 : decode cX5_days 51 = .ok (.iload_n 2, 1) := by decide +kernel
theorem dX5_days_52 : decode cX5_days 52 = .ok (.invokevirtual 54, 3) := by decide +kernel
theorem dX5_days_55 : decode cX5_days 55 = .ok (.istore 7, 2) := by decide +kernel
theorem dX5_days_57 : decode cX5_days 57 = .ok (.iload 7, 2) := by decide +kernel
theorem dX5_days_59 : decode cX5_days 59 = .ok (.ifCond .ne 15, 3) := by decide +kernel
theorem dX5_days_62 : decode cX5_days 62 = .ok (.aload 6, 2) := by decide +kernel
theorem dX5_days_64 : decode cX5_days 64 = .ok (.iload_n 3, 1) := by decide +kernel
theorem dX5_days_65 : decode cX5_days 65 = .ok (.iconst 2, 1) := by decide +kernel
theorem dX5_days_66 : decode cX5_days 66 = .ok (.iload 4, 2) := by decide +kernel
theorem dX5_days_68 : decode cX5_days 68 = .ok (.imul, 1) := by decide +kernel
theorem dX5_days_69 : decode cX5_days 69 = .ok (.invokevirtual 58, 3) := by decide +kernel
theorem dX5_days_72 : decode cX5_days 72 = .ok (.istore 7, 2) := by decide +kernel
theorem dX5_days_74 : decode cX5_days 74 = .ok (.iload 7, 2) := by decide +kernel
theorem dX5_days_76 : decode cX5_days 76 = .ok (.ifCond .eq 10, 3) := by decide +kernel
theorem dX5_days_79 : decode cX5_days 79 = .ok (.aload_n 0, 1) := by decide +kernel
theorem dX5_days_80 : decode cX5_days 80 = .ok (.iload 7, 2) := by decide +kernel
theorem dX5_days_82 : decode cX5_days 82 = .ok (.invokevirtual 62, 3) := by decide +kernel
theorem dX5_days_85 : decode cX5_days 85 = .ok (.ireturn, 1) := by decide +kernel
theorem dX5_days_86 : decode cX5_days 86 = .ok (.aload_n 0, 1) := by decide +kernel
theorem dX5_days_87 : decode cX5_days 87 = .ok (.getfield 12, 3) := by decide +kernel
theorem dX5_days_90 : decode cX5_days 90 = .ok (.invokevirtual 105, 3) := by decide +kernel
theorem dX5_days_93 : decode cX5_days 93 = .ok (.ifCond .ne 6, 3) := by decide +kernel
theorem dX5_days_96 : decode cX5_days 96 = .ok (.bipush (-3), 2) := by decide +kernel
theorem dX5_days_98 : decode cX5_days 98 = .ok (.ireturn, 1) := by decide +kernel
theorem dX5_days_99 : decode cX5_days 99 = .ok (.aload 6, 2) := by decide +kernel
theorem dX5_days_101 : decode cX5_days 101 = .ok (.iload_n 3, 1) := by decide +kernel
theorem dX5_days_102 : decode cX5_days 102 = .ok (.iload 4, 2) := by decide +kernel
theorem dX5_days_104 : decode cX5_days 104 = .ok (.invokestatic 134, 3) := by decide +kernel
theorem dX5_days_107 : decode cX5_days 107 = .ok (.ifCond .eq 17, 3) := by decide +kernel
theorem dX5_days_110 : decode cX5_days 110 = .ok (.aload_n 0, 1) := by decide +kernel
theorem dX5_days_111 : decode cX5_days 111 = .ok (.aload 6, 2) := by decide +kernel
theorem dX5_days_113 : decode cX5_days 113 = .ok (.iload_n 3, 1) := by decide +kernel
theorem dX5_days_114 : decode cX5_days 114 = .ok (.iload 4, 2) := by decide +kernel
theorem dX5_days_116 : decode cX5_days 116 = .ok (.iload 5, 2) := by decide +kernel
theorem dX5_days_118 : decode cX5_days 118 = .ok (.invokevirtual 138, 3) := by decide +kernel
theorem dX5_days_121 : decode cX5_days 121 = .ok (.goto 5, 3) := by decide +kernel
theorem dX5_days_124 : decode cX5_days 124 = .ok (.bipush (-2), 2) := by decide +kernel
theorem dX5_days_126 : decode cX5_days 126 = .ok (.ireturn, 1) := by decide +kernel
set_option maxRecDepth 20000 in
theorem ggX5_needs_X4_layerAt : GoodIn wsX5_needs wsX4_layerAt := goodIn_r _ [7, 8, 9, 29, 30, 31, 32] (by decide +kernel) (by decide +kernel)
set_option maxRecDepth 20000 in
theorem gX5_needs_X4_layerAt : GoodIn wsX5_needs (wsV RX5 77 RX4 yX4_layerAt wsX4_layerAt) := goodIn_app (goodIn_of _ (by decide +kernel)) ggX5_needs_X4_layerAt
set_option maxRecDepth 20000 in
theorem ggX5_needs_X4_heardBy : GoodIn wsX5_needs wsX4_heardBy := goodIn_r _ [13, 8, 9, 14, 15, 16, 17, 18, 19, 20, 21, 29, 30, 31, 32, 33, 34, 35] (by decide +kernel) (by decide +kernel)
set_option maxRecDepth 20000 in
theorem gX5_needs_X4_heardBy : GoodIn wsX5_needs (wsV RX5 102 RX4 yX4_heardBy wsX4_heardBy) := goodIn_app (goodIn_of _ (by decide +kernel)) ggX5_needs_X4_heardBy
theorem dX5_needs_0 : decode cX5_needs 0 = .ok (.aload_n 0, 1) := by decide +kernel
theorem dX5_needs_1 : decode cX5_needs 1 = .ok (.getfield 12, 3) := by decide +kernel
theorem dX5_needs_4 : decode cX5_needs 4 = .ok (.iload_n 1, 1) := by decide +kernel
theorem dX5_needs_5 : decode cX5_needs 5 = .ok (.invokevirtual 77, 3) := by decide +kernel
theorem dX5_needs_8 : decode cX5_needs 8 = .ok (.ifnonnull 5, 3) := by decide +kernel
theorem dX5_needs_11 : decode cX5_needs 11 = .ok (.iconst (-1), 1) := by decide +kernel
theorem dX5_needs_12 : decode cX5_needs 12 = .ok (.ireturn, 1) := by decide +kernel
theorem dX5_needs_13 : decode cX5_needs 13 = .ok (.iconst 0, 1) := by decide +kernel
theorem dX5_needs_14 : decode cX5_needs 14 = .ok (.istore_n 2, 1) := by decide +kernel
theorem dX5_needs_15 : decode cX5_needs 15 = .ok (.iload_n 2, 1) := by decide +kernel
theorem dX5_needs_16 : decode cX5_needs 16 = .ok (.bipush 20, 2) := by decide +kernel
theorem dX5_needs_18 : decode cX5_needs 18 = .ok (.if_icmp .gt 31, 3) := by decide +kernel
theorem dX5_needs_21 : decode cX5_needs 21 = .ok (.iload_n 1, 1) := by decide +kernel
theorem dX5_needs_22 : decode cX5_needs 22 = .ok (.aload_n 0, 1) := by decide +kernel
theorem dX5_needs_23 : decode cX5_needs 23 = .ok (.getfield 12, 3) := by decide +kernel
theorem dX5_needs_26 : decode cX5_needs 26 = .ok (.iload_n 2, 1) := by decide +kernel
theorem dX5_needs_27 : decode cX5_needs 27 = .ok (.aload_n 0, 1) := by decide +kernel
theorem dX5_needs_28 : decode cX5_needs 28 = .ok (.getfield 12, 3) := by decide +kernel
theorem dX5_needs_31 : decode cX5_needs 31 = .ok (.getfield 112, 3) := by decide +kernel
theorem dX5_needs_34 : decode cX5_needs 34 = .ok (.isub, 1) := by decide +kernel
theorem dX5_needs_35 : decode cX5_needs 35 = .ok (.invokevirtual 102, 3) := by decide +kernel
theorem dX5_needs_38 : decode cX5_needs 38 = .ok (.if_icmp .ge 5, 3) := by decide +kernel
theorem dX5_needs_41 : decode cX5_needs 41 = .ok (.iload_n 2, 1) := by decide +kernel
theorem dX5_needs_42 : decode cX5_needs 42 = .ok (.ireturn, 1) := by decide +kernel
theorem dX5_needs_43 : decode cX5_needs 43 = .ok (.iinc 2 1, 3) := by decide +kernel
theorem dX5_needs_46 : decode cX5_needs 46 = .ok (.goto (-31), 3) := by decide +kernel
theorem dX5_needs_49 : decode cX5_needs 49 = .ok (.bipush (-9), 2) := by decide +kernel
theorem dX5_needs_51 : decode cX5_needs 51 = .ok (.ireturn, 1) := by decide +kernel
set_option maxRecDepth 20000 in
theorem ggX5_gets_X5_isUpTo : GoodIn wsX5_gets wsX5_isUpTo := goodIn_r _ [6] (by decide +kernel) (by decide +kernel)
set_option maxRecDepth 20000 in
theorem gX5_gets_X5_isUpTo : GoodIn wsX5_gets (va_wsS RX5 50 yX5_isUpTo wsX5_isUpTo) := goodIn_app (goodIn_of _ (by decide +kernel)) ggX5_gets_X5_isUpTo
set_option maxRecDepth 20000 in
theorem ggX5_gets_X4_stands : GoodIn wsX5_gets wsX4_stands := goodIn_r _ [11, 12, 45, 46, 47, 48] (by decide +kernel) (by decide +kernel)
set_option maxRecDepth 20000 in
theorem gX5_gets_X4_stands : GoodIn wsX5_gets (wsV RX5 105 RX4 yX4_stands wsX4_stands) := goodIn_app (goodIn_of _ (by decide +kernel)) ggX5_gets_X4_stands
set_option maxRecDepth 20000 in
theorem ggX5_gets_X4_counselBy : GoodIn wsX5_gets wsX4_counselBy := goodIn_r _ [16, 17, 18, 19, 20, 21, 10, 22, 12, 23, 24, 25, 26, 27, 28, 29, 30, 31, 32, 33, 34, 35, 36, 37, 45, 46, 47, 48, 49, 50, 51] (by decide +kernel) (by decide +kernel)
set_option maxRecDepth 20000 in
theorem gX5_gets_X4_counselBy : GoodIn wsX5_gets (wsV RX5 118 RX4 yX4_counselBy wsX4_counselBy) := goodIn_app (goodIn_of _ (by decide +kernel)) ggX5_gets_X4_counselBy
theorem dX5_gets_0 : decode cX5_gets 0 = .ok (.iload_n 1, 1) := by decide +kernel
theorem dX5_gets_1 : decode cX5_gets 1 = .ok (.bipush 9, 2) := by decide +kernel
theorem dX5_gets_3 : decode cX5_gets 3 = .ok (.invokestatic 50, 3) := by decide +kernel
theorem dX5_gets_6 : decode cX5_gets 6 = .ok (.ifCond .ne 6, 3) := by decide +kernel
theorem dX5_gets_9 : decode cX5_gets 9 = .ok (.bipush (-2), 2) := by decide +kernel
theorem dX5_gets_11 : decode cX5_gets 11 = .ok (.ireturn, 1) := by decide +kernel
theorem dX5_gets_12 : decode cX5_gets 12 = .ok (.aload_n 0, 1) := by decide +kernel
theorem dX5_gets_13 : decode cX5_gets 13 = .ok (.getfield 12, 3) := by decide +kernel
theorem dX5_gets_16 : decode cX5_gets 16 = .ok (.invokevirtual 105, 3) := by decide +kernel
theorem dX5_gets_19 : decode cX5_gets 19 = .ok (.ifCond .ne 6, 3) := by decide +kernel
theorem dX5_gets_22 : decode cX5_gets 22 = .ok (.bipush (-3), 2) := by decide +kernel
theorem dX5_gets_24 : decode cX5_gets 24 = .ok (.ireturn, 1) := by decide +kernel
theorem dX5_gets_25 : decode cX5_gets 25 = .ok (.iconst 0, 1) := by decide +kernel
theorem dX5_gets_26 : decode cX5_gets 26 = .ok (.istore_n 2, 1) := by decide +kernel
theorem dX5_gets_27 : decode cX5_gets 27 = .ok (.iload_n 2, 1) := by decide +kernel
theorem dX5_gets_28 : decode cX5_gets 28 = .ok (.bipush 20, 2) := by decide +kernel
theorem dX5_gets_30 : decode cX5_gets 30 = .ok (.if_icmp .gt 31, 3) := by decide +kernel
theorem dX5_gets_33 : decode cX5_gets 33 = .ok (.aload_n 0, 1) := by decide +kernel
theorem dX5_gets_34 : decode cX5_gets 34 = .ok (.getfield 12, 3) := by decide +kernel
theorem dX5_gets_37 : decode cX5_gets 37 = .ok (.iload_n 2, 1) := by decide +kernel
theorem dX5_gets_38 : decode cX5_gets 38 = .ok (.aload_n 0, 1) := by decide +kernel
theorem dX5_gets_39 : decode cX5_gets 39 = .ok (.getfield 12, 3) := by decide +kernel
theorem dX5_gets_42 : decode cX5_gets 42 = .ok (.getfield 112, 3) := by decide +kernel
theorem dX5_gets_45 : decode cX5_gets 45 = .ok (.isub, 1) := by decide +kernel
theorem dX5_gets_46 : decode cX5_gets 46 = .ok (.invokevirtual 118, 3) := by decide +kernel
theorem dX5_gets_49 : decode cX5_gets 49 = .ok (.iload_n 1, 1) := by decide +kernel
theorem dX5_gets_50 : decode cX5_gets 50 = .ok (.if_icmp .ne 5, 3) := by decide +kernel
theorem dX5_gets_53 : decode cX5_gets 53 = .ok (.iload_n 2, 1) := by decide +kernel
theorem dX5_gets_54 : decode cX5_gets 54 = .ok (.ireturn, 1) := by decide +kernel
theorem dX5_gets_55 : decode cX5_gets 55 = .ok (.iinc 2 1, 3) := by decide +kernel
theorem dX5_gets_58 : decode cX5_gets 58 = .ok (.goto (-31), 3) := by decide +kernel
theorem dX5_gets_61 : decode cX5_gets 61 = .ok (.bipush (-9), 2) := by decide +kernel
theorem dX5_gets_63 : decode cX5_gets 63 = .ok (.ireturn, 1) := by decide +kernel
set_option maxRecDepth 20000 in
theorem ggX5_without_X5_isUpTo : GoodIn wsX5_without wsX5_isUpTo := goodIn_r _ [7] (by decide +kernel) (by decide +kernel)
set_option maxRecDepth 20000 in
theorem gX5_without_X5_isUpTo : GoodIn wsX5_without (va_wsS RX5 50 yX5_isUpTo wsX5_isUpTo) := goodIn_app (goodIn_of _ (by decide +kernel)) ggX5_without_X5_isUpTo
set_option maxRecDepth 20000 in
theorem ggX5_without_X4_stands : GoodIn wsX5_without wsX4_stands := goodIn_r _ [12, 13, 85, 86, 87, 88] (by decide +kernel) (by decide +kernel)
set_option maxRecDepth 20000 in
theorem gX5_without_X4_stands : GoodIn wsX5_without (wsV RX5 105 RX4 yX4_stands wsX4_stands) := goodIn_app (goodIn_of _ (by decide +kernel)) ggX5_without_X4_stands
set_option maxRecDepth 20000 in
theorem ggX5_without_J6_bitCount_0f7a4 : GoodIn wsX5_without wsJ6_bitCount_0f7a4 := goodIn_r _ [17, 18, 19, 20] (by decide +kernel) (by decide +kernel)
set_option maxRecDepth 20000 in
theorem gX5_without_J6_bitCount_0f7a4 : GoodIn wsX5_without (va_wsS RX5 142 yJ6_bitCount_0f7a4 wsJ6_bitCount_0f7a4) := goodIn_app (goodIn_of _ (by decide +kernel)) ggX5_without_J6_bitCount_0f7a4
set_option maxRecDepth 20000 in
theorem ggX5_without_X4_becomeLess : GoodIn wsX5_without wsX4_becomeLess := goodIn_r _ [24, 25, 26, 13, 27, 28, 29, 11, 30, 31, 32, 33, 34, 35, 36, 37, 38, 39, 40, 41, 42, 43, 44, 45, 46, 47, 48, 49, 50, 51, 52, 53, 54, 85, 86, 87, 88, 89, 90, 91] (by decide +kernel) (by decide +kernel)
set_option maxRecDepth 20000 in
theorem gX5_without_X4_becomeLess : GoodIn wsX5_without (wsV RX5 147 RX4 yX4_becomeLess wsX4_becomeLess) := goodIn_app (goodIn_of _ (by decide +kernel)) ggX5_without_X4_becomeLess
set_option maxRecDepth 20000 in
theorem ggX5_without_X4_warmth : GoodIn wsX5_without wsX4_warmth := goodIn_r _ [58, 25, 26, 85, 86, 87, 88] (by decide +kernel) (by decide +kernel)
set_option maxRecDepth 20000 in
theorem gX5_without_X4_warmth : GoodIn wsX5_without (wsV RX5 96 RX4 yX4_warmth wsX4_warmth) := goodIn_app (goodIn_of _ (by decide +kernel)) ggX5_without_X4_warmth
set_option maxRecDepth 20000 in
theorem ggX5_without_X4_counselBy : GoodIn wsX5_without wsX4_counselBy := goodIn_r _ [62, 35, 42, 63, 64, 65, 11, 66, 13, 40, 67, 68, 69, 50, 70, 52, 53, 71, 72, 73, 74, 75, 76, 77, 85, 86, 87, 88, 89, 90, 91] (by decide +kernel) (by decide +kernel)
set_option maxRecDepth 20000 in
theorem gX5_without_X4_counselBy : GoodIn wsX5_without (wsV RX5 118 RX4 yX4_counselBy wsX4_counselBy) := goodIn_app (goodIn_of _ (by decide +kernel)) ggX5_without_X4_counselBy
theorem dX5_without_0 : decode cX5_without 0 = .ok (.iload_n 1, 1) := by decide +kernel
theorem dX5_without_1 : decode cX5_without 1 = .ok (.bipush 9, 2) := by decide +kernel
theorem dX5_without_3 : decode cX5_without 3 = .ok (.invokestatic 50, 3) := by decide +kernel
theorem dX5_without_6 : decode cX5_without 6 = .ok (.ifCond .ne 6, 3) := by decide +kernel
theorem dX5_without_9 : decode cX5_without 9 = .ok (.bipush (-2), 2) := by decide +kernel
theorem dX5_without_11 : decode cX5_without 11 = .ok (.ireturn, 1) := by decide +kernel
theorem dX5_without_12 : decode cX5_without 12 = .ok (.aload_n 0, 1) := by decide +kernel
theorem dX5_without_13 : decode cX5_without 13 = .ok (.getfield 12, 3) := by decide +kernel
theorem dX5_without_16 : decode cX5_without 16 = .ok (.invokevirtual 105, 3) := by decide +kernel
theorem dX5_without_19 : decode cX5_without 19 = .ok (.ifCond .ne 6, 3) := by decide +kernel
theorem dX5_without_22 : decode cX5_without 22 = .ok (.bipush (-3), 2) := by decide +kernel
theorem dX5_without_24 : decode cX5_without 24 = .ok (.ireturn, 1) := by decide +kernel
theorem dX5_without_25 : decode cX5_without 25 = .ok (.bipush (-9), 2) := by decide +kernel
theorem dX5_without_27 : decode cX5_without 27 = .ok (.istore_n 2, 1) := by decide +kernel
theorem dX5_without_28 : decode cX5_without 28 = .ok (.iconst 0, 1) := by decide +kernel
theorem dX5_without_29 : decode cX5_without 29 = .ok (.istore_n 3, 1) := by decide +kernel
theorem dX5_without_30 : decode cX5_without 30 = .ok (.iload_n 3, 1) := by decide +kernel
theorem dX5_without_31 : decode cX5_without 31 = .ok (.iconst 1, 1) := by decide +kernel
theorem dX5_without_32 : decode cX5_without 32 = .ok (.aload_n 0, 1) := by decide +kernel
theorem dX5_without_33 : decode cX5_without 33 = .ok (.getfield 12, 3) := by decide +kernel
theorem dX5_without_36 : decode cX5_without 36 = .ok (.getfield 76, 3) := by decide +kernel
theorem dX5_without_39 : decode cX5_without 39 = .ok (.ishl, 1) := by decide +kernel
theorem dX5_without_40 : decode cX5_without 40 = .ok (.if_icmp .ge 58, 3) := by decide +kernel
theorem dX5_without_43 : decode cX5_without 43 = .ok (.iload_n 2, 1) := by decide +kernel
theorem dX5_without_44 : decode cX5_without 44 = .ok (.bipush (-9), 2) := by decide +kernel
theorem dX5_without_46 : decode cX5_without 46 = .ok (.if_icmp .eq 14, 3) := by decide +kernel
theorem dX5_without_49 : decode cX5_without 49 = .ok (.iload_n 3, 1) := by decide +kernel
theorem dX5_without_50 : decode cX5_without 50 = .ok (.invokestatic 142, 3) := by decide +kernel
theorem dX5_without_53 : decode cX5_without 53 = .ok (.iload_n 2, 1) := by decide +kernel
theorem dX5_without_54 : decode cX5_without 54 = .ok (.invokestatic 142, 3) := by decide +kernel
theorem dX5_without_57 : decode cX5_without 57 = .ok (.if_icmp .ge 35, 3) := by decide +kernel
theorem dX5_without_60 : decode cX5_without 60 = .ok (.aload_n 0, 1) := by decide +kernel
theorem dX5_without_61 : decode cX5_without 61 = .ok (.getfield 18, 3) := by decide +kernel
theorem dX5_without_64 : decode cX5_without 64 = .ok (.aload_n 0, 1) := by decide +kernel
theorem dX5_without_65 : decode cX5_without 65 = .ok (.getfield 12, 3) := by decide +kernel
theorem dX5_without_68 : decode cX5_without 68 = .ok (.iload_n 3, 1) := by decide +kernel
theorem dX5_without_69 : decode cX5_without 69 = .ok (.invokevirtual 147, 3) := by decide +kernel
theorem dX5_without_72 : decode cX5_without 72 = .ok (.aload_n 0, 1) := by decide +kernel
theorem dX5_without_73 : decode cX5_without 73 = .ok (.getfield 18, 3) := by decide +kernel
theorem dX5_without_76 : decode cX5_without 76 = .ok (.aload_n 0, 1) := by decide +kernel
theorem dX5_without_77 : decode cX5_without 77 = .ok (.getfield 18, 3) := by decide +kernel
theorem dX5_without_80 : decode cX5_without 80 = .ok (.invokevirtual 96, 3) := by decide +kernel
theorem dX5_without_83 : decode cX5_without 83 = .ok (.invokevirtual 118, 3) := by decide +kernel
theorem dX5_without_86 : decode cX5_without 86 = .ok (.iload_n 1, 1) := by decide +kernel
theorem dX5_without_87 : decode cX5_without 87 = .ok (.if_icmp .ne 5, 3) := by decide +kernel
theorem dX5_without_90 : decode cX5_without 90 = .ok (.iload_n 3, 1) := by decide +kernel
theorem dX5_without_91 : decode cX5_without 91 = .ok (.istore_n 2, 1) := by decide +kernel
theorem dX5_without_92 : decode cX5_without 92 = .ok (.iinc 3 1, 3) := by decide +kernel
theorem dX5_without_95 : decode cX5_without 95 = .ok (.goto (-65), 3) := by decide +kernel
theorem dX5_without_98 : decode cX5_without 98 = .ok (.iload_n 2, 1) := by decide +kernel
theorem dX5_without_99 : decode cX5_without 99 = .ok (.ireturn, 1) := by decide +kernel
set_option maxRecDepth 20000 in
theorem ggX5_reading_X5_isUpTo : GoodIn wsX5_reading wsX5_isUpTo := goodIn_r _ [7] (by decide +kernel) (by decide +kernel)
set_option maxRecDepth 20000 in
theorem gX5_reading_X5_isUpTo : GoodIn wsX5_reading (va_wsS RX5 50 yX5_isUpTo wsX5_isUpTo) := goodIn_app (goodIn_of _ (by decide +kernel)) ggX5_reading_X5_isUpTo
set_option maxRecDepth 20000 in
theorem ggX5_reading_X4_stands : GoodIn wsX5_reading wsX4_stands := goodIn_r _ [12, 13, 32, 33, 34, 35] (by decide +kernel) (by decide +kernel)
set_option maxRecDepth 20000 in
theorem gX5_reading_X4_stands : GoodIn wsX5_reading (wsV RX5 105 RX4 yX4_stands wsX4_stands) := goodIn_app (goodIn_of _ (by decide +kernel)) ggX5_reading_X4_stands
set_option maxRecDepth 20000 in
theorem ggX5_reading_X2_note : GoodIn wsX5_reading wsX2_note := goodIn_r _ [18, 19, 20, 21, 29, 30, 31] (by decide +kernel) (by decide +kernel)
set_option maxRecDepth 20000 in
theorem gX5_reading_X2_note : GoodIn wsX5_reading (wsV RX5 151 RX2 yX2_note wsX2_note) := goodIn_app (goodIn_of _ (by decide +kernel)) ggX5_reading_X2_note
theorem dX5_reading_0 : decode cX5_reading 0 = .ok (.iload_n 1, 1) := by decide +kernel
theorem dX5_reading_1 : decode cX5_reading 1 = .ok (.bipush 20, 2) := by decide +kernel
theorem dX5_reading_3 : decode cX5_reading 3 = .ok (.invokestatic 50, 3) := by decide +kernel
theorem dX5_reading_6 : decode cX5_reading 6 = .ok (.ifCond .eq 12, 3) := by decide +kernel
theorem dX5_reading_9 : decode cX5_reading 9 = .ok (.iload_n 2, 1) := by decide +kernel
theorem dX5_reading_10 : decode cX5_reading 10 = .ok (.bipush 9, 2) := by decide +kernel
theorem dX5_reading_12 : decode cX5_reading 12 = .ok (.invokestatic 50, 3) := by decide +kernel
theorem dX5_reading_15 : decode cX5_reading 15 = .ok (.ifCond .ne 6, 3) := by decide +kernel
theorem dX5_reading_18 : decode cX5_reading 18 = .ok (.bipush (-2), 2) := by decide +kernel
theorem dX5_reading_20 : decode cX5_reading 20 = .ok (.ireturn, 1) := by decide +kernel
theorem dX5_reading_21 : decode cX5_reading 21 = .ok (.iload_n 3, 1) := by decide +kernel
theorem dX5_reading_22 : decode cX5_reading 22 = .ok (.bipush 9, 2) := by decide +kernel
theorem dX5_reading_24 : decode cX5_reading 24 = .ok (.invokestatic 50, 3) := by decide +kernel
theorem dX5_reading_27 : decode cX5_reading 27 = .ok (.ifCond .ne 12, 3) := by decide +kernel
theorem dX5_reading_30 : decode cX5_reading 30 = .ok (.iload_n 3, 1) := by decide +kernel
theorem dX5_reading_31 : decode cX5_reading 31 = .ok (.bipush (-9), 2) := by decide +kernel
theorem dX5_reading_33 : decode cX5_reading 33 = .ok (.if_icmp .eq 6, 3) := by decide +kernel
theorem dX5_reading_36 : decode cX5_reading 36 = .ok (.bipush (-2), 2) := by decide +kernel
theorem dX5_reading_38 : decode cX5_reading 38 = .ok (.ireturn, 1) := by decide +kernel
theorem dX5_reading_39 : decode cX5_reading 39 = .ok (.aload_n 0, 1) := by decide +kernel
theorem dX5_reading_40 : decode cX5_reading 40 = .ok (.getfield 12, 3) := by decide +kernel
theorem dX5_reading_43 : decode cX5_reading 43 = .ok (.invokevirtual 105, 3) := by decide +kernel
theorem dX5_reading_46 : decode cX5_reading 46 = .ok (.ifCond .ne 6, 3) := by decide +kernel
theorem dX5_reading_49 : decode cX5_reading 49 = .ok (.bipush (-3), 2) := by decide +kernel
theorem dX5_reading_51 : decode cX5_reading 51 = .ok (.ireturn, 1) := by decide +kernel
theorem dX5_reading_52 : decode cX5_reading 52 = .ok (.aload_n 0, 1) := by decide +kernel
theorem dX5_reading_53 : decode cX5_reading 53 = .ok (.getfield 24, 3) := by decide +kernel
theorem dX5_reading_56 : decode cX5_reading 56 = .ok (.iload_n 1, 1) := by decide +kernel
theorem dX5_reading_57 : decode cX5_reading 57 = .ok (.iload_n 2, 1) := by decide +kernel
theorem dX5_reading_58 : decode cX5_reading 58 = .ok (.isub, 1) := by decide +kernel
theorem dX5_reading_59 : decode cX5_reading 59 = .ok (.iload_n 3, 1) := by decide +kernel
theorem dX5_reading_60 : decode cX5_reading 60 = .ok (.invokevirtual 151, 3) := by decide +kernel
theorem dX5_reading_63 : decode cX5_reading 63 = .ok (.ifCond .eq 15, 3) := by decide +kernel
theorem dX5_reading_66 : decode cX5_reading 66 = .ok (.aload_n 0, 1) := by decide +kernel
theorem dX5_reading_67 : decode cX5_reading 67 = .ok (.getfield 24, 3) := by decide +kernel
theorem dX5_reading_70 : decode cX5_reading 70 = .ok (.getfield 73, 3) := by decide +kernel
theorem dX5_reading_73 : decode cX5_reading 73 = .ok (.iconst 1, 1) := by decide +kernel
theorem dX5_reading_74 : decode cX5_reading 74 = .ok (.isub, 1) := by decide +kernel
theorem dX5_reading_75 : decode cX5_reading 75 = .ok (.goto 5, 3) := by decide +kernel
theorem dX5_reading_78 : decode cX5_reading 78 = .ok (.bipush (-4), 2) := by decide +kernel
theorem dX5_reading_80 : decode cX5_reading 80 = .ok (.ireturn, 1) := by decide +kernel
set_option maxRecDepth 20000 in
theorem ggX5_back_X5_isUpTo : GoodIn wsX5_back wsX5_isUpTo := goodIn_r _ [6] (by decide +kernel) (by decide +kernel)
set_option maxRecDepth 20000 in
theorem gX5_back_X5_isUpTo : GoodIn wsX5_back (va_wsS RX5 50 yX5_isUpTo wsX5_isUpTo) := goodIn_app (goodIn_of _ (by decide +kernel)) ggX5_back_X5_isUpTo
theorem dX5_back_0 : decode cX5_back 0 = .ok (.iload_n 1, 1) := by decide +kernel
theorem dX5_back_1 : decode cX5_back 1 = .ok (.aload_n 0, 1) := by decide +kernel
theorem dX5_back_2 : decode cX5_back 2 = .ok (.getfield 24, 3) := by decide +kernel
theorem dX5_back_5 : decode cX5_back 5 = .ok (.getfield 73, 3) := by decide +kernel
theorem dX5_back_8 : decode cX5_back 8 = .ok (.invokestatic 50, 3) := by decide +kernel
theorem dX5_back_11 : decode cX5_back 11 = .ok (.ifCond .ne 6, 3) := by decide +kernel
theorem dX5_back_14 : decode cX5_back 14 = .ok (.bipush (-2), 2) := by decide +kernel
theorem dX5_back_16 : decode cX5_back 16 = .ok (.ireturn, 1) := by decide +kernel
theorem dX5_back_17 : decode cX5_back 17 = .ok (.aload_n 0, 1) := by decide +kernel
theorem dX5_back_18 : decode cX5_back 18 = .ok (.getfield 24, 3) := by decide +kernel
theorem dX5_back_21 : decode cX5_back 21 = .ok (.dup, 1) := by decide +kernel
theorem dX5_back_22 : decode cX5_back 22 = .ok (.getfield 73, 3) := by decide +kernel
theorem dX5_back_25 : decode cX5_back 25 = .ok (.iload_n 1, 1) := by decide +kernel
theorem dX5_back_26 : decode cX5_back 26 = .ok (.isub, 1) := by decide +kernel
theorem dX5_back_27 : decode cX5_back 27 = .ok (.putfield 73, 3) := by decide +kernel
theorem dX5_back_30 : decode cX5_back 30 = .ok (.aload_n 0, 1) := by decide +kernel
theorem dX5_back_31 : decode cX5_back 31 = .ok (.getfield 24, 3) := by decide +kernel
theorem dX5_back_34 : decode cX5_back 34 = .ok (.getfield 73, 3) := by decide +kernel
theorem dX5_back_37 : decode cX5_back 37 = .ok (.ireturn, 1) := by decide +kernel
set_option maxRecDepth 20000 in
theorem ggX5_orders_X4_stands : GoodIn wsX5_orders wsX4_stands := goodIn_r _ [8, 9, 128, 129, 130, 131] (by decide +kernel) (by decide +kernel)
set_option maxRecDepth 20000 in
theorem gX5_orders_X4_stands : GoodIn wsX5_orders (wsV RX5 105 RX4 yX4_stands wsX4_stands) := goodIn_app (goodIn_of _ (by decide +kernel)) ggX5_orders_X4_stands
set_option maxRecDepth 20000 in
theorem ggX5_orders_X5_countOrders : GoodIn wsX5_orders wsX5_countOrders := goodIn_r _ [14, 3, 1, 2, 15, 16, 17, 18, 19, 20, 21, 22, 23, 24, 25, 26, 27, 28, 29, 30, 31, 13, 32, 33, 34, 35, 36, 37, 7, 38, 39, 40, 9, 41, 42, 43, 44, 45, 46, 47, 48, 49, 50, 51, 52, 53, 54, 55, 56, 57, 58, 59, 60, 61, 62, 63, 64, 65, 66, 67, 68, 69, 70, 71, 72, 73, 74, 75, 76, 77, 78, 79, 80, 81, 82, 83, 84, 85, 86, 87, 88, 89, 90, 91, 92, 93, 94, 95, 96, 97, 98, 99, 100, 101, 102, 103, 104, 105, 106, 107, 108, 109, 110, 111, 112, 113, 114, 115, 121, 122, 123, 124, 125, 126, 127, 128, 129, 130, 131, 132, 133, 134, 135, 136, 137, 138, 139] (by decide +kernel) (by decide +kernel)
set_option maxRecDepth 20000 in
theorem gX5_orders_X5_countOrders : GoodIn wsX5_orders (wsV RX5 154 RX5 yX5_countOrders wsX5_countOrders) := goodIn_app (goodIn_of _ (by decide +kernel)) ggX5_orders_X5_countOrders
set_option maxRecDepth 20000 in
theorem ggX5_orders_X5_findOrder : GoodIn wsX5_orders wsX5_findOrder := goodIn_r _ [119, 3, 1, 2, 15, 16, 17, 18, 19, 20, 21, 22, 23, 24, 25, 26, 27, 28, 29, 30, 31, 13, 32, 33, 34, 35, 36, 37, 7, 38, 39, 40, 9, 41, 42, 43, 44, 45, 46, 47, 48, 49, 50, 51, 52, 53, 54, 55, 56, 57, 58, 59, 60, 61, 62, 63, 64, 65, 66, 67, 68, 69, 70, 71, 72, 73, 74, 75, 76, 77, 78, 79, 80, 81, 82, 83, 84, 85, 86, 87, 88, 89, 90, 91, 92, 93, 94, 95, 96, 97, 98, 99, 100, 101, 102, 103, 104, 105, 106, 107, 108, 109, 110, 111, 112, 113, 114, 115, 121, 122, 123, 124, 125, 126, 127, 128, 129, 130, 131, 132, 133, 134, 135, 136, 137, 138, 139] (by decide +kernel) (by decide +kernel)
set_option maxRecDepth 20000 in
theorem gX5_orders_X5_findOrder : GoodIn wsX5_orders (wsV RX5 157 RX5 yX5_findOrder wsX5_findOrder) := goodIn_app (goodIn_of _ (by decide +kernel)) ggX5_orders_X5_findOrder
set_option maxRecDepth 20000 in
theorem ggX5_orders_X1_layerIn : GoodIn wsX5_orders wsX1_layerIn := goodIn_r _ [48, 27, 28, 132, 133] (by decide +kernel) (by decide +kernel)
set_option maxRecDepth 20000 in
theorem gX5_orders_X1_layerIn : GoodIn wsX5_orders (wsV RX5 160 RX1 yX1_layerIn wsX1_layerIn) := goodIn_app (goodIn_of _ (by decide +kernel)) ggX5_orders_X1_layerIn
theorem dX5_orders_0 : decode cX5_orders 0 = .ok (.iload_n 1, 1) := by decide +kernel
theorem dX5_orders_1 : decode cX5_orders 1 = .ok (.iconst (-1), 1) := by decide +kernel
theorem dX5_orders_2 : decode cX5_orders 2 = .ok (.if_icmp .lt 9, 3) := by decide +kernel
theorem dX5_orders_5 : decode cX5_orders 5 = .ok (.iload_n 1, 1) := by decide +kernel
theorem dX5_orders_6 : decode cX5_orders 6 = .ok (.bipush 6, 2) := by decide +kernel
theorem dX5_orders_8 : decode cX5_orders 8 = .ok (.if_icmp .lt 6, 3) := by decide +kernel
theorem dX5_orders_11 : decode cX5_orders 11 = .ok (.bipush (-2), 2) := by decide +kernel
theorem dX5_orders_13 : decode cX5_orders 13 = .ok (.ireturn, 1) := by decide +kernel
theorem dX5_orders_14 : decode cX5_orders 14 = .ok (.aload_n 0, 1) := by decide +kernel
theorem dX5_orders_15 : decode cX5_orders 15 = .ok (.getfield 12, 3) := by decide +kernel
theorem dX5_orders_18 : decode cX5_orders 18 = .ok (.invokevirtual 105, 3) := by decide +kernel
theorem dX5_orders_21 : decode cX5_orders 21 = .ok (.ifCond .ne 6, 3) := by decide +kernel
theorem dX5_orders_24 : decode cX5_orders 24 = .ok (.bipush (-3), 2) := by decide +kernel
theorem dX5_orders_26 : decode cX5_orders 26 = .ok (.ireturn, 1) := by decide +kernel
theorem dX5_orders_27 : decode cX5_orders 27 = .ok (.iload_n 1, 1) := by decide +kernel
theorem dX5_orders_28 : decode cX5_orders 28 = .ok (.iconst (-1), 1) := by decide +kernel
theorem dX5_orders_29 : decode cX5_orders 29 = .ok (.if_icmp .ne 8, 3) := by decide +kernel
theorem dX5_orders_32 : decode cX5_orders 32 = .ok (.aload_n 0, 1) := by decide +kernel
theorem dX5_orders_33 : decode cX5_orders 33 = .ok (.invokevirtual 154, 3) := by decide +kernel
theorem dX5_orders_36 : decode cX5_orders 36 = .ok (.ireturn, 1) := by decide +kernel
theorem dX5_orders_37 : decode cX5_orders 37 = .ok (.iload_n 1, 1) := by decide +kernel
theorem dX5_orders_38 : decode cX5_orders 38 = .ok (.aload_n 0, 1) := by decide +kernel
theorem dX5_orders_39 : decode cX5_orders 39 = .ok (.getfield 12, 3) := by decide +kernel
theorem dX5_orders_42 : decode cX5_orders 42 = .ok (.getfield 76, 3) := by decide +kernel
theorem dX5_orders_45 : decode cX5_orders 45 = .ok (.if_icmp .ge 21, 3) := by decide +kernel
theorem dX5_orders_48 : decode cX5_orders 48 = .ok (.aload_n 0, 1) := by decide +kernel
theorem dX5_orders_49 : decode cX5_orders 49 = .ok (.invokevirtual 157, 3) := by decide +kernel
theorem dX5_orders_52 : decode cX5_orders 52 = .ok (.ifCond .eq 14, 3) := by decide +kernel
theorem dX5_orders_55 : decode cX5_orders 55 = .ok (.aload_n 0, 1) := by decide +kernel
theorem dX5_orders_56 : decode cX5_orders 56 = .ok (.getfield 31, 3) := by decide +kernel
theorem dX5_orders_59 : decode cX5_orders 59 = .ok (.iload_n 1, 1) := by decide +kernel
theorem dX5_orders_60 : decode cX5_orders 60 = .ok (.invokevirtual 160, 3) := by decide +kernel
theorem dX5_orders_63 : decode cX5_orders 63 = .ok (.goto 5, 3) := by decide +kernel
theorem dX5_orders_66 : decode cX5_orders 66 = .ok (.bipush (-9), 2) := by decide +kernel
theorem dX5_orders_68 : decode cX5_orders 68 = .ok (.ireturn, 1) := by decide +kernel
set_option maxRecDepth 20000 in
theorem ggX5_holds_X4_layerAt : GoodIn wsX5_holds wsX4_layerAt := goodIn_r _ [6, 7, 8, 88, 89, 90, 91] (by decide +kernel) (by decide +kernel)
set_option maxRecDepth 20000 in
theorem gX5_holds_X4_layerAt : GoodIn wsX5_holds (wsV RX5 77 RX4 yX4_layerAt wsX4_layerAt) := goodIn_app (goodIn_of _ (by decide +kernel)) ggX5_holds_X4_layerAt
set_option maxRecDepth 20000 in
theorem ggX5_holds_X5_fitting : GoodIn wsX5_holds wsX5_fitting := goodIn_r _ [13, 14, 1, 15, 16, 17, 18, 5, 19, 20, 21, 22, 23, 24, 25, 7, 26, 27, 28, 29, 30, 3, 4, 6, 8, 31, 32, 33, 34, 35, 36, 37, 38, 39, 40, 41, 42, 43, 44, 45, 46, 47, 48, 49, 50, 51, 52, 53, 54, 55, 56, 57, 58, 59, 60, 61, 62, 63, 64, 65, 66, 67, 68, 69, 70, 71, 72, 73, 74, 75, 76, 77, 78, 79, 80, 81, 82, 83, 84, 85, 86, 87, 88, 89, 90, 91, 92, 93, 94, 95, 96, 97] (by decide +kernel) (by decide +kernel)
set_option maxRecDepth 20000 in
theorem gX5_holds_X5_fitting : GoodIn wsX5_holds (wsV RX5 163 RX5 yX5_fitting wsX5_fitting) := goodIn_app (goodIn_of _ (by decide +kernel)) ggX5_holds_X5_fitting
theorem dX5_holds_0 : decode cX5_holds 0 = .ok (.aload_n 0, 1) := by decide +kernel
theorem dX5_holds_1 : decode cX5_holds 1 = .ok (.getfield 12, 3) := by decide +kernel
theorem dX5_holds_4 : decode cX5_holds 4 = .ok (.iload_n 1, 1) := by decide +kernel
theorem dX5_holds_5 : decode cX5_holds 5 = .ok (.invokevirtual 77, 3) := by decide +kernel
theorem dX5_holds_8 : decode cX5_holds 8 = .ok (.ifnonnull 7, 3) := by decide +kernel
theorem dX5_holds_11 : decode cX5_holds 11 = .ok (.iconst (-1), 1) := by decide +kernel
theorem dX5_holds_12 : decode cX5_holds 12 = .ok (.goto 11, 3) := by decide +kernel
theorem dX5_holds_15 : decode cX5_holds 15 = .ok (.aload_n 0, 1) := by decide +kernel
theorem dX5_holds_16 : decode cX5_holds 16 = .ok (.iload_n 1, 1) := by decide +kernel
theorem dX5_holds_17 : decode cX5_holds 17 = .ok (.iconst 1, 1) := by decide +kernel
theorem dX5_holds_18 : decode cX5_holds 18 = .ok (.bipush 9, 2) := by decide +kernel
theorem dX5_holds_20 : decode cX5_holds 20 = .ok (.invokevirtual 163, 3) := by decide +kernel
theorem dX5_holds_23 : decode cX5_holds 23 = .ok (.ireturn, 1) := by decide +kernel
set_option maxRecDepth 20000 in
theorem ggX5_advices_X4_layerAt : GoodIn wsX5_advices wsX4_layerAt := goodIn_r _ [6, 7, 8, 88, 89, 90, 91] (by decide +kernel) (by decide +kernel)
set_option maxRecDepth 20000 in
theorem gX5_advices_X4_layerAt : GoodIn wsX5_advices (wsV RX5 77 RX4 yX4_layerAt wsX4_layerAt) := goodIn_app (goodIn_of _ (by decide +kernel)) ggX5_advices_X4_layerAt
set_option maxRecDepth 20000 in
theorem ggX5_advices_X5_fitting : GoodIn wsX5_advices wsX5_fitting := goodIn_r _ [13, 14, 1, 15, 16, 17, 18, 5, 19, 20, 21, 22, 23, 24, 25, 7, 26, 27, 28, 29, 30, 3, 4, 6, 8, 31, 32, 33, 34, 35, 36, 37, 38, 39, 40, 41, 42, 43, 44, 45, 46, 47, 48, 49, 50, 51, 52, 53, 54, 55, 56, 57, 58, 59, 60, 61, 62, 63, 64, 65, 66, 67, 68, 69, 70, 71, 72, 73, 74, 75, 76, 77, 78, 79, 80, 81, 82, 83, 84, 85, 86, 87, 88, 89, 90, 91, 92, 93, 94, 95, 96, 97] (by decide +kernel) (by decide +kernel)
set_option maxRecDepth 20000 in
theorem gX5_advices_X5_fitting : GoodIn wsX5_advices (wsV RX5 163 RX5 yX5_fitting wsX5_fitting) := goodIn_app (goodIn_of _ (by decide +kernel)) ggX5_advices_X5_fitting
theorem dX5_advices_0 : decode cX5_advices 0 = .ok (.aload_n 0, 1) := by decide +kernel
theorem dX5_advices_1 : decode cX5_advices 1 = .ok (.getfield 12, 3) := by decide +kernel
theorem dX5_advices_4 : decode cX5_advices 4 = .ok (.iload_n 1, 1) := by decide +kernel
theorem dX5_advices_5 : decode cX5_advices 5 = .ok (.invokevirtual 77, 3) := by decide +kernel
theorem dX5_advices_8 : decode cX5_advices 8 = .ok (.ifnonnull 7, 3) := by decide +kernel
theorem dX5_advices_11 : decode cX5_advices 11 = .ok (.iconst (-1), 1) := by decide +kernel
theorem dX5_advices_12 : decode cX5_advices 12 = .ok (.goto 11, 3) := by decide +kernel
theorem dX5_advices_15 : decode cX5_advices 15 = .ok (.aload_n 0, 1) := by decide +kernel
theorem dX5_advices_16 : decode cX5_advices 16 = .ok (.iload_n 1, 1) := by decide +kernel
theorem dX5_advices_17 : decode cX5_advices 17 = .ok (.iconst 2, 1) := by decide +kernel
theorem dX5_advices_18 : decode cX5_advices 18 = .ok (.bipush 9, 2) := by decide +kernel
theorem dX5_advices_20 : decode cX5_advices 20 = .ok (.invokevirtual 163, 3) := by decide +kernel
theorem dX5_advices_23 : decode cX5_advices 23 = .ok (.ireturn, 1) := by decide +kernel
set_option maxRecDepth 20000 in
theorem ggX5_kinds_X4_layerAt : GoodIn wsX5_kinds wsX4_layerAt := goodIn_r _ [6, 7, 8, 88, 89, 90, 91] (by decide +kernel) (by decide +kernel)
set_option maxRecDepth 20000 in
theorem gX5_kinds_X4_layerAt : GoodIn wsX5_kinds (wsV RX5 77 RX4 yX4_layerAt wsX4_layerAt) := goodIn_app (goodIn_of _ (by decide +kernel)) ggX5_kinds_X4_layerAt
set_option maxRecDepth 20000 in
theorem ggX5_kinds_X5_fitting : GoodIn wsX5_kinds wsX5_fitting := goodIn_r _ [13, 14, 1, 15, 16, 17, 18, 5, 19, 20, 21, 22, 23, 24, 25, 7, 26, 27, 28, 29, 30, 3, 4, 6, 8, 31, 32, 33, 34, 35, 36, 37, 38, 39, 40, 41, 42, 43, 44, 45, 46, 47, 48, 49, 50, 51, 52, 53, 54, 55, 56, 57, 58, 59, 60, 61, 62, 63, 64, 65, 66, 67, 68, 69, 70, 71, 72, 73, 74, 75, 76, 77, 78, 79, 80, 81, 82, 83, 84, 85, 86, 87, 88, 89, 90, 91, 92, 93, 94, 95, 96, 97] (by decide +kernel) (by decide +kernel)
set_option maxRecDepth 20000 in
theorem gX5_kinds_X5_fitting : GoodIn wsX5_kinds (wsV RX5 163 RX5 yX5_fitting wsX5_fitting) := goodIn_app (goodIn_of _ (by decide +kernel)) ggX5_kinds_X5_fitting
theorem dX5_kinds_0 : decode cX5_kinds 0 = .ok (.aload_n 0, 1) := by decide +kernel
theorem dX5_kinds_1 : decode cX5_kinds 1 = .ok (.getfield 12, 3) := by decide +kernel
theorem dX5_kinds_4 : decode cX5_kinds 4 = .ok (.iload_n 1, 1) := by decide +kernel
theorem dX5_kinds_5 : decode cX5_kinds 5 = .ok (.invokevirtual 77, 3) := by decide +kernel
theorem dX5_kinds_8 : decode cX5_kinds 8 = .ok (.ifnonnull 7, 3) := by decide +kernel
theorem dX5_kinds_11 : decode cX5_kinds 11 = .ok (.iconst (-1), 1) := by decide +kernel
theorem dX5_kinds_12 : decode cX5_kinds 12 = .ok (.goto 10, 3) := by decide +kernel
theorem dX5_kinds_15 : decode cX5_kinds 15 = .ok (.aload_n 0, 1) := by decide +kernel
theorem dX5_kinds_16 : decode cX5_kinds 16 = .ok (.iload_n 1, 1) := by decide +kernel
theorem dX5_kinds_17 : decode cX5_kinds 17 = .ok (.iconst 0, 1) := by decide +kernel
theorem dX5_kinds_18 : decode cX5_kinds 18 = .ok (.iconst 2, 1) := by decide +kernel
theorem dX5_kinds_19 : decode cX5_kinds 19 = .ok (.invokevirtual 163, 3) := by decide +kernel
theorem dX5_kinds_22 : decode cX5_kinds 22 = .ok (.ireturn, 1) := by decide +kernel
set_option maxRecDepth 20000 in
theorem ggX5_odds_X4_layerAt : GoodIn wsX5_odds wsX4_layerAt := goodIn_r _ [8, 9, 10, 37, 38, 39, 40] (by decide +kernel) (by decide +kernel)
set_option maxRecDepth 20000 in
theorem gX5_odds_X4_layerAt : GoodIn wsX5_odds (wsV RX5 77 RX4 yX4_layerAt wsX4_layerAt) := goodIn_app (goodIn_of _ (by decide +kernel)) ggX5_odds_X4_layerAt
set_option maxRecDepth 20000 in
theorem ggX5_odds_X5_isUpTo : GoodIn wsX5_odds wsX5_isUpTo := goodIn_r _ [14] (by decide +kernel) (by decide +kernel)
set_option maxRecDepth 20000 in
theorem gX5_odds_X5_isUpTo : GoodIn wsX5_odds (va_wsS RX5 50 yX5_isUpTo wsX5_isUpTo) := goodIn_app (goodIn_of _ (by decide +kernel)) ggX5_odds_X5_isUpTo
set_option maxRecDepth 20000 in
theorem ggX5_odds_X4_heardBy : GoodIn wsX5_odds wsX4_heardBy := goodIn_r _ [18, 9, 10, 19, 20, 21, 22, 23, 24, 25, 26, 37, 38, 39, 40, 41, 42, 43] (by decide +kernel) (by decide +kernel)
set_option maxRecDepth 20000 in
theorem gX5_odds_X4_heardBy : GoodIn wsX5_odds (wsV RX5 102 RX4 yX4_heardBy wsX4_heardBy) := goodIn_app (goodIn_of _ (by decide +kernel)) ggX5_odds_X4_heardBy
set_option maxRecDepth 20000 in
theorem ggX5_odds_X5_greatestShared : GoodIn wsX5_odds wsX5_greatestShared := goodIn_r _ [29] (by decide +kernel) (by decide +kernel)
set_option maxRecDepth 20000 in
theorem gX5_odds_X5_greatestShared : GoodIn wsX5_odds (va_wsS RX5 169 yX5_greatestShared wsX5_greatestShared) := goodIn_app (goodIn_of _ (by decide +kernel)) ggX5_odds_X5_greatestShared
theorem dX5_odds_0 : decode cX5_odds 0 = .ok (.aload_n 0, 1) := by decide +kernel
theorem dX5_odds_1 : decode cX5_odds 1 = .ok (.getfield 12, 3) := by decide +kernel
theorem dX5_odds_4 : decode cX5_odds 4 = .ok (.iload_n 1, 1) := by decide +kernel
theorem dX5_odds_5 : decode cX5_odds 5 = .ok (.invokevirtual 77, 3) := by decide +kernel
theorem dX5_odds_8 : decode cX5_odds 8 = .ok (.ifnull 11, 3) := by decide +kernel
theorem dX5_odds_11 : decode cX5_odds 11 = .ok (.iload_n 2, 1) := by decide +kernel
theorem dX5_odds_12 : decode cX5_odds 12 = .ok (.iconst 1, 1) := by decide +kernel
theorem dX5_odds_13 : decode cX5_odds 13 = .ok (.invokestatic 50, 3) := by decide +kernel
theorem dX5_odds_16 : decode cX5_odds 16 = .ok (.ifCond .ne 7, 3) := by decide +kernel
theorem dX5_odds_19 : decode cX5_odds 19 = .ok (.ldc2_w 167, 3) := by decide +kernel
theorem dX5_odds_22 : decode cX5_odds 22 = .ok (.lreturn, 1) := by decide +kernel
theorem dX5_odds_23 : decode cX5_odds 23 = .ok (.bipush 21, 2) := by decide +kernel
theorem dX5_odds_25 : decode cX5_odds 25 = .ok (.istore_n 3, 1) := by decide +kernel
theorem dX5_odds_26 : decode cX5_odds 26 = .ok (.iconst 0, 1) := by decide +kernel
theorem dX5_odds_27 : decode cX5_odds 27 = .ok (.istore 4, 2) := by decide +kernel
theorem dX5_odds_29 : decode cX5_odds 29 = .ok (.iconst 0, 1) := by decide +kernel
theorem dX5_odds_30 : decode cX5_odds 30 = .ok (.istore 5, 2) := by decide +kernel
theorem dX5_odds_32 : decode cX5_odds 32 = .ok (.iload 5, 2) := by decide +kernel
theorem dX5_odds_34 : decode cX5_odds 34 = .ok (.bipush 20, 2) := by decide +kernel
theorem dX5_odds_36 : decode cX5_odds 36 = .ok (.if_icmp .gt 33, 3) := by decide +kernel
theorem dX5_odds_39 : decode cX5_odds 39 = .ok (.iload_n 1, 1) := by decide +kernel
theorem dX5_odds_40 : decode cX5_odds 40 = .ok (.aload_n 0, 1) := by decide +kernel
theorem dX5_odds_41 : decode cX5_odds 41 = .ok (.getfield 12, 3) := by decide +kernel
theorem dX5_odds_44 : decode cX5_odds 44 = .ok (.iload 5, 2) := by decide +kernel
theorem dX5_odds_46 : decode cX5_odds 46 = .ok (.aload_n 0, 1) := by decide +kernel
theorem dX5_odds_47 : decode cX5_odds 47 = .ok (.getfield 12, 3) := by decide +kernel
theorem dX5_odds_50 : decode cX5_odds 50 = .ok (.getfield 112, 3) := by decide +kernel
theorem dX5_odds_53 : decode cX5_odds 53 = .ok (.isub, 1) := by decide +kernel
theorem dX5_odds_54 : decode cX5_odds 54 = .ok (.invokevirtual 102, 3) := by decide +kernel
theorem dX5_odds_57 : decode cX5_odds 57 = .ok (.if_icmp .ge 6, 3) := by decide +kernel
theorem dX5_odds_60 : decode cX5_odds 60 = .ok (.iinc 4 1, 3) := by decide +kernel
theorem dX5_odds_63 : decode cX5_odds 63 = .ok (.iinc 5 1, 3) := by decide +kernel
theorem dX5_odds_66 : decode cX5_odds 66 = .ok (.goto (-34), 3) := by decide +kernel
theorem dX5_odds_69 : decode cX5_odds 69 = .ok (.iload 4, 2) := by decide +kernel
theorem dX5_odds_71 : decode cX5_odds 71 = .ok (.iload_n 3, 1) := by decide +kernel
theorem dX5_odds_72 : decode cX5_odds 72 = .ok (.invokestatic 169, 3) := by decide +kernel
theorem dX5_odds_75 : decode cX5_odds 75 = .ok (.istore 5, 2) := by decide +kernel
theorem dX5_odds_77 : decode cX5_odds 77 = .ok (.iload_n 2, 1) := by decide +kernel
theorem dX5_odds_78 : decode cX5_odds 78 = .ok (.ifCond .ne 12, 3) := by decide +kernel
theorem dX5_odds_81 : decode cX5_odds 81 = .ok (.iload 4, 2) := by decide +kernel
theorem dX5_odds_83 : decode cX5_odds 83 = .ok (.iload 5, 2) := by decide +kernel
theorem dX5_odds_85 : decode cX5_odds 85 = .ok (.idiv, 1) := by decide +kernel
theorem dX5_odds_86 : decode cX5_odds 86 = .ok (.i2l, 1) := by decide +kernel
theorem dX5_odds_87 : decode cX5_odds 87 = .ok (.goto 8, 3) := by decide +kernel
theorem dX5_odds_90 : decode cX5_odds 90 = .ok (.iload_n 3, 1) := by decide +kernel
theorem dX5_odds_91 : decode cX5_odds 91 = .ok (.iload 5, 2) := by decide +kernel
theorem dX5_odds_93 : decode cX5_odds 93 = .ok (.idiv, 1) := by decide +kernel
theorem dX5_odds_94 : decode cX5_odds 94 = .ok (.i2l, 1) := by decide +kernel
theorem dX5_odds_95 : decode cX5_odds 95 = .ok (.lreturn, 1) := by decide +kernel
set_option maxRecDepth 20000 in
theorem ggX5_sheet_X5_sheetAt : GoodIn wsX5_sheet wsX5_sheetAt := goodIn_r _ [6, 7, 8, 9, 5, 10, 31, 32, 33, 34, 35, 36, 37] (by decide +kernel) (by decide +kernel)
set_option maxRecDepth 20000 in
theorem gX5_sheet_X5_sheetAt : GoodIn wsX5_sheet (wsV RX5 46 RX5 yX5_sheetAt wsX5_sheetAt) := goodIn_app (goodIn_of _ (by decide +kernel)) ggX5_sheet_X5_sheetAt
set_option maxRecDepth 20000 in
theorem ggX5_sheet_X5_isUpTo : GoodIn wsX5_sheet wsX5_isUpTo := goodIn_r _ [10] (by decide +kernel) (by decide +kernel)
set_option maxRecDepth 20000 in
theorem gX5_sheet_X5_isUpTo : GoodIn wsX5_sheet (va_wsS RX5 50 yX5_isUpTo wsX5_isUpTo) := goodIn_app (goodIn_of _ (by decide +kernel)) ggX5_sheet_X5_isUpTo
set_option maxRecDepth 20000 in
theorem ggX5_sheet_X5_failed : GoodIn wsX5_sheet wsX5_failed := goodIn_r _ [14, 1, 31, 32, 33, 34, 35, 36, 37] (by decide +kernel) (by decide +kernel)
set_option maxRecDepth 20000 in
theorem gX5_sheet_X5_failed : GoodIn wsX5_sheet (wsV RX5 62 RX5 yX5_failed wsX5_failed) := goodIn_app (goodIn_of _ (by decide +kernel)) ggX5_sheet_X5_failed
set_option maxRecDepth 20000 in
theorem ggX5_sheet_X3_begin : GoodIn wsX5_sheet wsX3_begin := goodIn_r _ [19, 20, 21, 22, 23, 24, 25, 26, 27, 28, 29, 30, 38, 39, 40, 41] (by decide +kernel) (by decide +kernel)
set_option maxRecDepth 20000 in
theorem gX5_sheet_X3_begin : GoodIn wsX5_sheet (wsV RX5 172 RX3 yX3_begin wsX3_begin) := goodIn_app (goodIn_of _ (by decide +kernel)) ggX5_sheet_X3_begin
theorem dX5_sheet_0 : decode cX5_sheet 0 = .ok (.aload_n 0, 1) := by decide +kernel
theorem dX5_sheet_1 : decode cX5_sheet 1 = .ok (.iconst 0, 1) := by decide +kernel
theorem dX5_sheet_2 : decode cX5_sheet 2 = .ok (.putfield 42, 3) := by decide +kernel
theorem dX5_sheet_5 : decode cX5_sheet 5 = .ok (.aload_n 0, 1) := by decide +kernel
theorem dX5_sheet_6 : decode cX5_sheet 6 = .ok (.iload_n 1, 1) := by decide +kernel
theorem dX5_sheet_7 : decode cX5_sheet 7 = .ok (.invokevirtual 46, 3) := by decide +kernel
theorem dX5_sheet_10 : decode cX5_sheet 10 = .ok (.astore 4, 2) := by decide +kernel
theorem dX5_sheet_12 : decode cX5_sheet 12 = .ok (.aload 4, 2) := by decide +kernel
theorem dX5_sheet_14 : decode cX5_sheet 14 = .ok (.ifnonnull 5, 3) := by decide +kernel
theorem dX5_sheet_17 : decode cX5_sheet 17 = .ok (.iconst (-1), 1) := by decide +kernel
theorem dX5_sheet_18 : decode cX5_sheet 18 = .ok (.ireturn, 1) := by decide +kernel
theorem dX5_sheet_19 : decode cX5_sheet 19 = .ok (.iload_n 2, 1) := by decide +kernel
theorem dX5_sheet_20 : decode cX5_sheet 20 = .ok (.iconst 2, 1) := by decide +kernel
theorem dX5_sheet_21 : decode cX5_sheet 21 = .ok (.invokestatic 50, 3) := by decide +kernel
theorem dX5_sheet_24 : decode cX5_sheet 24 = .ok (.ifCond .eq 9, 3) := by decide +kernel
theorem dX5_sheet_27 : decode cX5_sheet 27 = .ok (.iload_n 3, 1) := by decide +kernel
theorem dX5_sheet_28 : decode cX5_sheet 28 = .ok (.bipush 60, 2) := by decide +kernel
theorem dX5_sheet_30 : decode cX5_sheet 30 = .ok (.if_icmp .le 6, 3) := by decide +kernel
theorem dX5_sheet_33 : decode cX5_sheet 33 = .ok (.bipush (-2), 2) := by decide +kernel
theorem dX5_sheet_35 : decode cX5_sheet 35 = .ok (.ireturn, 1) := by decide +kernel
theorem dX5_sheet_36 : decode cX5_sheet 36 = .ok (.iload_n 3, 1) := by decide +kernel
theorem dX5_sheet_37 : decode cX5_sheet 37 = .ok (.ifCond .ge 9, 3) := by decide +kernel
theorem dX5_sheet_40 : decode cX5_sheet 40 = .ok (.aload_n 0, 1) := by decide +kernel
theorem dX5_sheet_41 : decode cX5_sheet 41 = .ok (.iconst 4, 1) := by decide +kernel
theorem dX5_sheet_42 : decode cX5_sheet 42 = .ok (.invokevirtual 62, 3) := by decide +kernel
theorem dX5_sheet_45 : decode cX5_sheet 45 = .ok (.ireturn, 1) := by decide +kernel
theorem dX5_sheet_46 : decode cX5_sheet 46 = .ok (.aload 4, 2) := by decide +kernel
theorem dX5_sheet_48 : decode cX5_sheet 48 = .ok (.iload_n 2, 1) := by decide +kernel
theorem dX5_sheet_49 : decode cX5_sheet 49 = .ok (.iload_n 3, 1) := by decide +kernel
theorem dX5_sheet_50 : decode cX5_sheet 50 = .ok (.invokevirtual 172, 3) := by decide +kernel
theorem dX5_sheet_53 : decode cX5_sheet 53 = .ok (.iconst 1, 1) := by decide +kernel
theorem dX5_sheet_54 : decode cX5_sheet 54 = .ok (.ireturn, 1) := by decide +kernel
set_option maxRecDepth 20000 in
theorem ggX5_lose_X5_sheetAt : GoodIn wsX5_lose wsX5_sheetAt := goodIn_r _ [6, 7, 8, 9, 5, 10, 15, 16, 17, 18, 19, 20, 21] (by decide +kernel) (by decide +kernel)
set_option maxRecDepth 20000 in
theorem gX5_lose_X5_sheetAt : GoodIn wsX5_lose (wsV RX5 46 RX5 yX5_sheetAt wsX5_sheetAt) := goodIn_app (goodIn_of _ (by decide +kernel)) ggX5_lose_X5_sheetAt
theorem dX5_lose_0 : decode cX5_lose 0 = .ok (.aload_n 0, 1) := by decide +kernel
theorem dX5_lose_1 : decode cX5_lose 1 = .ok (.iload_n 1, 1) := by decide +kernel
theorem dX5_lose_2 : decode cX5_lose 2 = .ok (.invokevirtual 46, 3) := by decide +kernel
theorem dX5_lose_5 : decode cX5_lose 5 = .ok (.astore_n 2, 1) := by decide +kernel
theorem dX5_lose_6 : decode cX5_lose 6 = .ok (.aload_n 2, 1) := by decide +kernel
theorem dX5_lose_7 : decode cX5_lose 7 = .ok (.ifnonnull 5, 3) := by decide +kernel
theorem dX5_lose_10 : decode cX5_lose 10 = .ok (.iconst (-1), 1) := by decide +kernel
theorem dX5_lose_11 : decode cX5_lose 11 = .ok (.ireturn, 1) := by decide +kernel
theorem dX5_lose_12 : decode cX5_lose 12 = .ok (.aload_n 2, 1) := by decide +kernel
theorem dX5_lose_13 : decode cX5_lose 13 = .ok (.getfield 176, 3) := by decide +kernel
theorem dX5_lose_16 : decode cX5_lose 16 = .ok (.ifCond .eq 7, 3) := by decide +kernel
theorem dX5_lose_19 : decode cX5_lose 19 = .ok (.iconst 1, 1) := by decide +kernel
theorem dX5_lose_20 : decode cX5_lose 20 = .ok (.goto 4, 3) := by decide +kernel
theorem dX5_lose_23 : decode cX5_lose 23 = .ok (.iconst 0, 1) := by decide +kernel
theorem dX5_lose_24 : decode cX5_lose 24 = .ok (.istore_n 3, 1) := by decide +kernel
theorem dX5_lose_25 : decode cX5_lose 25 = .ok (.aload_n 2, 1) := by decide +kernel
theorem dX5_lose_26 : decode cX5_lose 26 = .ok (.iconst 0, 1) := by decide +kernel
theorem dX5_lose_27 : decode cX5_lose 27 = .ok (.putfield 176, 3) := by decide +kernel
theorem dX5_lose_30 : decode cX5_lose 30 = .ok (.iload_n 3, 1) := by decide +kernel
theorem dX5_lose_31 : decode cX5_lose 31 = .ok (.ireturn, 1) := by decide +kernel
set_option maxRecDepth 20000 in
theorem ggX5_put_X5_sheetAt : GoodIn wsX5_put wsX5_sheetAt := goodIn_r _ [6, 7, 8, 9, 5, 10, 32, 33, 34, 35, 36, 37, 38] (by decide +kernel) (by decide +kernel)
set_option maxRecDepth 20000 in
theorem gX5_put_X5_sheetAt : GoodIn wsX5_put (wsV RX5 46 RX5 yX5_sheetAt wsX5_sheetAt) := goodIn_app (goodIn_of _ (by decide +kernel)) ggX5_put_X5_sheetAt
set_option maxRecDepth 20000 in
theorem ggX5_put_X3_faultOfCell : GoodIn wsX5_put wsX3_faultOfCell := goodIn_r _ [15, 16, 17, 39, 40, 41, 42] (by decide +kernel) (by decide +kernel)
set_option maxRecDepth 20000 in
theorem gX5_put_X3_faultOfCell : GoodIn wsX5_put (wsV RX5 180 RX3 yX3_faultOfCell wsX3_faultOfCell) := goodIn_app (goodIn_of _ (by decide +kernel)) ggX5_put_X3_faultOfCell
set_option maxRecDepth 20000 in
theorem ggX5_put_X5_failed : GoodIn wsX5_put wsX5_failed := goodIn_r _ [21, 1, 32, 33, 34, 35, 36, 37, 38] (by decide +kernel) (by decide +kernel)
set_option maxRecDepth 20000 in
theorem gX5_put_X5_failed : GoodIn wsX5_put (wsV RX5 62 RX5 yX5_failed wsX5_failed) := goodIn_app (goodIn_of _ (by decide +kernel)) ggX5_put_X5_failed
set_option maxRecDepth 20000 in
theorem ggX5_put_X3_setCell : GoodIn wsX5_put wsX3_setCell := goodIn_r _ [25, 17, 26, 27, 28, 29, 14, 30, 31, 39, 40, 41, 42] (by decide +kernel) (by decide +kernel)
set_option maxRecDepth 20000 in
theorem gX5_put_X3_setCell : GoodIn wsX5_put (wsV RX5 183 RX3 yX3_setCell wsX3_setCell) := goodIn_app (goodIn_of _ (by decide +kernel)) ggX5_put_X3_setCell
theorem dX5_put_0 : decode cX5_put 0 = .ok (.aload_n 0, 1) := by decide +kernel
theorem dX5_put_1 : decode cX5_put 1 = .ok (.iconst 0, 1) := by decide +kernel
theorem dX5_put_2 : decode cX5_put 2 = .ok (.putfield 42, 3) := by decide +kernel
theorem dX5_put_5 : decode cX5_put 5 = .ok (.aload_n 0, 1) := by decide +kernel
theorem dX5_put_6 : decode cX5_put 6 = .ok (.iload_n 1, 1) := by decide +kernel
theorem dX5_put_7 : decode cX5_put 7 = .ok (.invokevirtual 46, 3) := by decide +kernel
theorem dX5_put_10 : decode cX5_put 10 = .ok (.astore 4, 2) := by decide +kernel
theorem dX5_put_12 : decode cX5_put 12 = .ok (.aload 4, 2) := by decide +kernel
theorem dX5_put_14 : decode cX5_put 14 = .ok (.ifnonnull 5, 3) := by decide +kernel
theorem dX5_put_17 : decode cX5_put 17 = .ok (.iconst (-1), 1) := by decide +kernel
theorem dX5_put_18 : decode cX5_put 18 = .ok (.ireturn, 1) := by decide +kernel
theorem dX5_put_19 : decode cX5_put 19 = .ok (.aload 4, 2) := by decide +kernel
theorem dX5_put_21 : decode cX5_put 21 = .ok (.iload_n 2, 1) := by decide +kernel
theorem dX5_put_22 : decode cX5_put 22 = .ok (.invokevirtual 180, 3) := by decide +kernel
theorem dX5_put_25 : decode cX5_put 25 = .ok (.istore 5, 2) := by decide +kernel
theorem dX5_put_27 : decode cX5_put 27 = .ok (.iload 5, 2) := by decide +kernel
theorem dX5_put_29 : decode cX5_put 29 = .ok (.ifCond .eq 10, 3) := by decide +kernel
theorem dX5_put_32 : decode cX5_put 32 = .ok (.aload_n 0, 1) := by decide +kernel
theorem dX5_put_33 : decode cX5_put 33 = .ok (.iload 5, 2) := by decide +kernel
theorem dX5_put_35 : decode cX5_put 35 = .ok (.invokevirtual 62, 3) := by decide +kernel
theorem dX5_put_38 : decode cX5_put 38 = .ok (.ireturn, 1) := by decide +kernel
theorem dX5_put_39 : decode cX5_put 39 = .ok (.aload 4, 2) := by decide +kernel
theorem dX5_put_41 : decode cX5_put 41 = .ok (.iload_n 2, 1) := by decide +kernel
theorem dX5_put_42 : decode cX5_put 42 = .ok (.iload_n 3, 1) := by decide +kernel
theorem dX5_put_43 : decode cX5_put 43 = .ok (.invokevirtual 183, 3) := by decide +kernel
theorem dX5_put_46 : decode cX5_put 46 = .ok (.iconst 1, 1) := by decide +kernel
theorem dX5_put_47 : decode cX5_put 47 = .ok (.ireturn, 1) := by decide +kernel
set_option maxRecDepth 20000 in
theorem ggX5_cell_X5_sheetAt : GoodIn wsX5_cell wsX5_sheetAt := goodIn_r _ [7, 8, 9, 10, 6, 11, 29, 30, 31, 32, 33, 34, 35] (by decide +kernel) (by decide +kernel)
set_option maxRecDepth 20000 in
theorem gX5_cell_X5_sheetAt : GoodIn wsX5_cell (wsV RX5 46 RX5 yX5_sheetAt wsX5_sheetAt) := goodIn_app (goodIn_of _ (by decide +kernel)) ggX5_cell_X5_sheetAt
set_option maxRecDepth 20000 in
theorem ggX5_cell_X5_isUpTo : GoodIn wsX5_cell wsX5_isUpTo := goodIn_r _ [11] (by decide +kernel) (by decide +kernel)
set_option maxRecDepth 20000 in
theorem gX5_cell_X5_isUpTo : GoodIn wsX5_cell (va_wsS RX5 50 yX5_isUpTo wsX5_isUpTo) := goodIn_app (goodIn_of _ (by decide +kernel)) ggX5_cell_X5_isUpTo
set_option maxRecDepth 20000 in
theorem ggX5_cell_X3_faultAsLane : GoodIn wsX5_cell wsX3_faultAsLane := goodIn_r _ [16, 17, 18, 36, 37, 38, 39] (by decide +kernel) (by decide +kernel)
set_option maxRecDepth 20000 in
theorem gX5_cell_X3_faultAsLane : GoodIn wsX5_cell (wsV RX5 54 RX3 yX3_faultAsLane wsX3_faultAsLane) := goodIn_app (goodIn_of _ (by decide +kernel)) ggX5_cell_X3_faultAsLane
set_option maxRecDepth 20000 in
theorem ggX5_cell_X3_faultOfCell : GoodIn wsX5_cell wsX3_faultOfCell := goodIn_r _ [22, 17, 23, 36, 37, 38, 39] (by decide +kernel) (by decide +kernel)
set_option maxRecDepth 20000 in
theorem gX5_cell_X3_faultOfCell : GoodIn wsX5_cell (wsV RX5 180 RX3 yX3_faultOfCell wsX3_faultOfCell) := goodIn_app (goodIn_of _ (by decide +kernel)) ggX5_cell_X3_faultOfCell
set_option maxRecDepth 20000 in
theorem ggX5_cell_X3_getCell : GoodIn wsX5_cell wsX3_getCell := goodIn_r _ [27, 23, 28, 36, 37, 38, 39] (by decide +kernel) (by decide +kernel)
set_option maxRecDepth 20000 in
theorem gX5_cell_X3_getCell : GoodIn wsX5_cell (wsV RX5 186 RX3 yX3_getCell wsX3_getCell) := goodIn_app (goodIn_of _ (by decide +kernel)) ggX5_cell_X3_getCell
theorem dX5_cell_0 : decode cX5_cell 0 = .ok (.aload_n 0, 1) := by decide +kernel
theorem dX5_cell_1 : decode cX5_cell 1 = .ok (.iconst 0, 1) := by decide +kernel
theorem dX5_cell_2 : decode cX5_cell 2 = .ok (.putfield 42, 3) := by decide +kernel
theorem dX5_cell_5 : decode cX5_cell 5 = .ok (.aload_n 0, 1) := by decide +kernel
theorem dX5_cell_6 : decode cX5_cell 6 = .ok (.iload_n 1, 1) := by decide +kernel
theorem dX5_cell_7 : decode cX5_cell 7 = .ok (.invokevirtual 46, 3) := by decide +kernel
theorem dX5_cell_10 : decode cX5_cell 10 = .ok (.astore 4, 2) := by decide +kernel
theorem dX5_cell_12 : decode cX5_cell 12 = .ok (.aload 4, 2) := by decide +kernel
theorem dX5_cell_14 : decode cX5_cell 14 = .ok (.ifnull 11, 3) := by decide +kernel
theorem dX5_cell_17 : decode cX5_cell 17 = .ok (.iload_n 3, 1) := by decide +kernel
theorem dX5_cell_18 : decode cX5_cell 18 = .ok (.iconst 2, 1) := by decide +kernel
theorem dX5_cell_19 : decode cX5_cell 19 = .ok (.invokestatic 50, 3) := by decide +kernel
theorem dX5_cell_22 : decode cX5_cell 22 = .ok (.ifCond .ne 7, 3) := by decide +kernel
theorem dX5_cell_25 : decode cX5_cell 25 = .ok (.ldc2_w 167, 3) := by decide +kernel
theorem dX5_cell_28 : decode cX5_cell 28 = .ok (.lreturn, 1) := by decide +kernel
theorem dX5_cell_29 : decode cX5_cell 29 = .ok (.aload 4, 2) := by decide +kernel
theorem dX5_cell_31 : decode cX5_cell 31 = .ok (.iload_n 3, 1) := by decide +kernel
theorem dX5_cell_32 : decode cX5_cell 32 = .ok (.invokevirtual 54, 3) := by decide +kernel
theorem dX5_cell_35 : decode cX5_cell 35 = .ok (.istore 5, 2) := by decide +kernel
theorem dX5_cell_37 : decode cX5_cell 37 = .ok (.iload 5, 2) := by decide +kernel
theorem dX5_cell_39 : decode cX5_cell 39 = .ok (.ifCond .ne 11, 3) := by decide +kernel
theorem dX5_cell_42 : decode cX5_cell 42 = .ok (.aload 4, 2) := by decide +kernel
theorem dX5_cell_44 : decode cX5_cell 44 = .ok (.iload_n 2, 1) := by decide +kernel
theorem dX5_cell_45 : decode cX5_cell 45 = .ok (.invokevirtual 180, 3) := by decide +kernel
theorem dX5_cell_48 : decode cX5_cell 48 = .ok (.istore 5, 2) := by decide +kernel
theorem dX5_cell_50 : decode cX5_cell 50 = .ok (.iload 5, 2) := by decide +kernel
theorem dX5_cell_52 : decode cX5_cell 52 = .ok (.ifCond .eq 13, 3) := by decide +kernel
theorem dX5_cell_55 : decode cX5_cell 55 = .ok (.aload_n 0, 1) := by decide +kernel
theorem dX5_cell_56 : decode cX5_cell 56 = .ok (.iload 5, 2) := by decide +kernel
theorem dX5_cell_58 : decode cX5_cell 58 = .ok (.putfield 42, 3) := by decide +kernel
theorem dX5_cell_61 : decode cX5_cell 61 = .ok (.ldc2_w 167, 3) := by decide +kernel
theorem dX5_cell_64 : decode cX5_cell 64 = .ok (.lreturn, 1) := by decide +kernel
theorem dX5_cell_65 : decode cX5_cell 65 = .ok (.aload 4, 2) := by decide +kernel
theorem dX5_cell_67 : decode cX5_cell 67 = .ok (.iload_n 2, 1) := by decide +kernel
theorem dX5_cell_68 : decode cX5_cell 68 = .ok (.invokevirtual 186, 3) := by decide +kernel
theorem dX5_cell_71 : decode cX5_cell 71 = .ok (.i2l, 1) := by decide +kernel
theorem dX5_cell_72 : decode cX5_cell 72 = .ok (.lreturn, 1) := by decide +kernel
set_option maxRecDepth 20000 in
theorem ggX5_copy_X5_sheetAt : GoodIn wsX5_copy wsX5_sheetAt := goodIn_r _ [11, 12, 13, 14, 10, 15, 32, 33, 34, 35, 36, 37, 38] (by decide +kernel) (by decide +kernel)
set_option maxRecDepth 20000 in
theorem gX5_copy_X5_sheetAt : GoodIn wsX5_copy (wsV RX5 46 RX5 yX5_sheetAt wsX5_sheetAt) := goodIn_app (goodIn_of _ (by decide +kernel)) ggX5_copy_X5_sheetAt
set_option maxRecDepth 20000 in
theorem ggX5_copy_X3_faultOfCopy : GoodIn wsX5_copy wsX3_faultOfCopy := goodIn_r _ [20, 21, 22, 23, 24, 25, 19, 26, 27, 39, 40, 41, 42] (by decide +kernel) (by decide +kernel)
set_option maxRecDepth 20000 in
theorem gX5_copy_X3_faultOfCopy : GoodIn wsX5_copy (wsV RX5 189 RX3 yX3_faultOfCopy wsX3_faultOfCopy) := goodIn_app (goodIn_of _ (by decide +kernel)) ggX5_copy_X3_faultOfCopy
set_option maxRecDepth 20000 in
theorem ggX5_copy_X5_failed : GoodIn wsX5_copy wsX5_failed := goodIn_r _ [31, 1, 32, 33, 34, 35, 36, 37, 38] (by decide +kernel) (by decide +kernel)
set_option maxRecDepth 20000 in
theorem gX5_copy_X5_failed : GoodIn wsX5_copy (wsV RX5 62 RX5 yX5_failed wsX5_failed) := goodIn_app (goodIn_of _ (by decide +kernel)) ggX5_copy_X5_failed
theorem dX5_copy_0 : decode cX5_copy 0 = .ok (.aload_n 0, 1) := by decide +kernel
theorem dX5_copy_1 : decode cX5_copy 1 = .ok (.iconst 0, 1) := by decide +kernel
theorem dX5_copy_2 : decode cX5_copy 2 = .ok (.putfield 42, 3) := by decide +kernel
theorem dX5_copy_5 : decode cX5_copy 5 = .ok (.aload_n 0, 1) := by decide +kernel
theorem dX5_copy_6 : decode cX5_copy 6 = .ok (.iload_n 1, 1) := by decide +kernel
theorem dX5_copy_7 : decode cX5_copy 7 = .ok (.invokevirtual 46, 3) := by decide +kernel
theorem dX5_copy_10 : decode cX5_copy 10 = .ok (.astore 6, 2) := by decide +kernel
theorem dX5_copy_12 : decode cX5_copy 12 = .ok (.aload_n 0, 1) := by decide +kernel
theorem dX5_copy_13 : decode cX5_copy 13 = .ok (.iload_n 3, 1) := by decide +kernel
theorem dX5_copy_14 : decode cX5_copy 14 = .ok (.invokevirtual 46, 3) := by decide +kernel
theorem dX5_copy_17 : decode cX5_copy 17 = .ok (.astore 7, 2) := by decide +kernel
theorem dX5_copy_19 : decode cX5_copy 19 = .ok (.aload 6, 2) := by decide +kernel
theorem dX5_copy_21 : decode cX5_copy 21 = .ok (.ifnull 8, 3) := by decide +kernel
theorem dX5_copy_24 : decode cX5_copy 24 = .ok (.aload 7, 2) := by decide +kernel
theorem dX5_copy_26 : decode cX5_copy 26 = .ok (.ifnonnull 5, 3) := by decide +kernel
theorem dX5_copy_29 : decode cX5_copy 29 = .ok (.iconst (-1), 1) := by decide +kernel
theorem dX5_copy_30 : decode cX5_copy 30 = .ok (.ireturn, 1) := by decide +kernel
theorem dX5_copy_31 : decode cX5_copy 31 = .ok (.aload 6, 2) := by decide +kernel
theorem dX5_copy_33 : decode cX5_copy 33 = .ok (.iload_n 2, 1) := by decide +kernel
theorem dX5_copy_34 : decode cX5_copy 34 = .ok (.aload 7, 2) := by decide +kernel
theorem dX5_copy_36 : decode cX5_copy 36 = .ok (.iload 4, 2) := by decide +kernel
theorem dX5_copy_38 : decode cX5_copy 38 = .ok (.iload 5, 2) := by decide +kernel
theorem dX5_copy_40 : decode cX5_copy 40 = .ok (.invokevirtual 189, 3) := by decide +kernel
theorem dX5_copy_43 : decode cX5_copy 43 = .ok (.istore 8, 2) := by decide +kernel
theorem dX5_copy_45 : decode cX5_copy 45 = .ok (.iload 8, 2) := by decide +kernel
theorem dX5_copy_47 : decode cX5_copy 47 = .ok (.ifCond .eq 10, 3) := by decide +kernel
theorem dX5_copy_50 : decode cX5_copy 50 = .ok (.aload_n 0, 1) := by decide +kernel
theorem dX5_copy_51 : decode cX5_copy 51 = .ok (.iload 8, 2) := by decide +kernel
theorem dX5_copy_53 : decode cX5_copy 53 = .ok (.invokevirtual 62, 3) := by decide +kernel
theorem dX5_copy_56 : decode cX5_copy 56 = .ok (.ireturn, 1) := by decide +kernel
theorem dX5_copy_57 : decode cX5_copy 57 = .ok (.aload 6, 2) := by decide +kernel
theorem dX5_copy_59 : decode cX5_copy 59 = .ok (.getfield 193, 3) := by decide +kernel
theorem dX5_copy_62 : decode cX5_copy 62 = .ok (.iload_n 2, 1) := by decide +kernel
theorem dX5_copy_63 : decode cX5_copy 63 = .ok (.aload 7, 2) := by decide +kernel
theorem dX5_copy_65 : decode cX5_copy 65 = .ok (.getfield 193, 3) := by decide +kernel
theorem dX5_copy_68 : decode cX5_copy 68 = .ok (.iload 4, 2) := by decide +kernel
theorem dX5_copy_70 : decode cX5_copy 70 = .ok (.iload 5, 2) := by decide +kernel
theorem dX5_copy_72 : decode cX5_copy 72 = .ok (.invokestatic 197, 3) := by decide +kernel
theorem dX5_copy_75 : decode cX5_copy 75 = .ok (.iload 5, 2) := by decide +kernel
theorem dX5_copy_77 : decode cX5_copy 77 = .ok (.ireturn, 1) := by decide +kernel
set_option maxRecDepth 20000 in
theorem ggX5_tell_X4_layerAt : GoodIn wsX5_tell wsX4_layerAt := goodIn_r _ [7, 8, 9, 39, 40, 41, 42] (by decide +kernel) (by decide +kernel)
set_option maxRecDepth 20000 in
theorem gX5_tell_X4_layerAt : GoodIn wsX5_tell (wsV RX5 77 RX4 yX4_layerAt wsX4_layerAt) := goodIn_app (goodIn_of _ (by decide +kernel)) ggX5_tell_X4_layerAt
set_option maxRecDepth 20000 in
theorem ggX5_tell_X5_tellRed : GoodIn wsX5_tell wsX5_tellRed := goodIn_r _ [14, 15, 16, 17, 13, 18, 19, 20, 21, 22, 23, 24, 25, 26, 27, 28, 29, 30, 31, 32, 33, 34, 35, 36, 37, 38] (by decide +kernel) (by decide +kernel)
set_option maxRecDepth 20000 in
theorem gX5_tell_X5_tellRed : GoodIn wsX5_tell (wsV RX5 203 RX5 yX5_tellRed wsX5_tellRed) := goodIn_app (goodIn_of _ (by decide +kernel)) ggX5_tell_X5_tellRed
set_option maxRecDepth 20000 in
theorem ggX5_tell_X5_tellTrellis : GoodIn wsX5_tell wsX5_tellTrellis := goodIn_r _ [23, 15, 16, 17, 13, 18, 19, 24, 25, 26, 27, 28, 29, 30, 31, 32, 33, 34, 35, 36, 37, 38] (by decide +kernel) (by decide +kernel)
set_option maxRecDepth 20000 in
theorem gX5_tell_X5_tellTrellis : GoodIn wsX5_tell (wsV RX5 207 RX5 yX5_tellTrellis wsX5_tellTrellis) := goodIn_app (goodIn_of _ (by decide +kernel)) ggX5_tell_X5_tellTrellis
set_option maxRecDepth 20000 in
theorem ggX5_tell_X5_tellStripe : GoodIn wsX5_tell wsX5_tellStripe := goodIn_r _ [27, 28, 15, 16, 17, 13, 18, 19, 36, 37, 38, 29, 30, 31, 32, 33, 34, 35] (by decide +kernel) (by decide +kernel)
set_option maxRecDepth 20000 in
theorem gX5_tell_X5_tellStripe : GoodIn wsX5_tell (wsV RX5 210 RX5 yX5_tellStripe wsX5_tellStripe) := goodIn_app (goodIn_of _ (by decide +kernel)) ggX5_tell_X5_tellStripe
theorem dX5_tell_0 : decode cX5_tell 0 = .ok (.aload_n 0, 1) := by decide +kernel
theorem dX5_tell_1 : decode cX5_tell 1 = .ok (.getfield 12, 3) := by decide +kernel
theorem dX5_tell_4 : decode cX5_tell 4 = .ok (.iload_n 1, 1) := by decide +kernel
theorem dX5_tell_5 : decode cX5_tell 5 = .ok (.invokevirtual 77, 3) := by decide +kernel
theorem dX5_tell_8 : decode cX5_tell 8 = .ok (.astore_n 2, 1) := by decide +kernel
theorem dX5_tell_9 : decode cX5_tell 9 = .ok (.aload_n 2, 1) := by decide +kernel
theorem dX5_tell_10 : decode cX5_tell 10 = .ok (.ifnonnull 5, 3) := by decide +kernel
theorem dX5_tell_13 : decode cX5_tell 13 = .ok (.iconst (-1), 1) := by decide +kernel
theorem dX5_tell_14 : decode cX5_tell 14 = .ok (.ireturn, 1) := by decide +kernel
theorem dX5_tell_15 : decode cX5_tell 15 = .ok (.aload_n 2, 1) := by decide +kernel
theorem dX5_tell_16 : decode cX5_tell 16 = .ok (.getfield 81, 3) := by decide +kernel
theorem dX5_tell_19 : decode cX5_tell 19 = .ok (.lookupswitch 37 #[(1, 31), (2, 25)], 25) := by decide +kernel
theorem dX5_tell_44 : decode cX5_tell 44 = .ok (.aload_n 0, 1) := by decide +kernel
theorem dX5_tell_45 : decode cX5_tell 45 = .ok (.aload_n 2, 1) := by decide +kernel
theorem dX5_tell_46 : decode cX5_tell 46 = .ok (.invokevirtual 203, 3) := by decide +kernel
theorem dX5_tell_49 : decode cX5_tell 49 = .ok (.ireturn, 1) := by decide +kernel
theorem dX5_tell_50 : decode cX5_tell 50 = .ok (.aload_n 0, 1) := by decide +kernel
theorem dX5_tell_51 : decode cX5_tell 51 = .ok (.aload_n 2, 1) := by decide +kernel
theorem dX5_tell_52 : decode cX5_tell 52 = .ok (.invokevirtual 207, 3) := by decide +kernel
theorem dX5_tell_55 : decode cX5_tell 55 = .ok (.ireturn, 1) := by decide +kernel
theorem dX5_tell_56 : decode cX5_tell 56 = .ok (.aload_n 0, 1) := by decide +kernel
theorem dX5_tell_57 : decode cX5_tell 57 = .ok (.aload_n 2, 1) := by decide +kernel
theorem dX5_tell_58 : decode cX5_tell 58 = .ok (.invokevirtual 210, 3) := by decide +kernel
theorem dX5_tell_61 : decode cX5_tell 61 = .ok (.ireturn, 1) := by decide +kernel
set_option maxRecDepth 20000 in
theorem ggX5_stroke_X4_layerAt : GoodIn wsX5_stroke wsX4_layerAt := goodIn_r _ [7, 8, 9, 35, 36, 37, 38] (by decide +kernel) (by decide +kernel)
set_option maxRecDepth 20000 in
theorem gX5_stroke_X4_layerAt : GoodIn wsX5_stroke (wsV RX5 77 RX4 yX4_layerAt wsX4_layerAt) := goodIn_app (goodIn_of _ (by decide +kernel)) ggX5_stroke_X4_layerAt
set_option maxRecDepth 20000 in
theorem ggX5_stroke_X5_strokeRed : GoodIn wsX5_stroke wsX5_strokeRed := goodIn_r _ [14, 15, 16, 17, 13, 18, 19, 25, 26, 27, 28, 29, 30, 31] (by decide +kernel) (by decide +kernel)
set_option maxRecDepth 20000 in
theorem gX5_stroke_X5_strokeRed : GoodIn wsX5_stroke (wsV RX5 213 RX5 yX5_strokeRed wsX5_strokeRed) := goodIn_app (goodIn_of _ (by decide +kernel)) ggX5_stroke_X5_strokeRed
set_option maxRecDepth 20000 in
theorem ggX5_stroke_X5_strokeLent : GoodIn wsX5_stroke wsX5_strokeLent := goodIn_r _ [23, 24, 15, 16, 17, 13, 18, 19, 32, 33, 34, 25, 26, 27, 28, 29, 30, 31] (by decide +kernel) (by decide +kernel)
set_option maxRecDepth 20000 in
theorem gX5_stroke_X5_strokeLent : GoodIn wsX5_stroke (wsV RX5 216 RX5 yX5_strokeLent wsX5_strokeLent) := goodIn_app (goodIn_of _ (by decide +kernel)) ggX5_stroke_X5_strokeLent
theorem dX5_stroke_0 : decode cX5_stroke 0 = .ok (.aload_n 0, 1) := by decide +kernel
theorem dX5_stroke_1 : decode cX5_stroke 1 = .ok (.getfield 12, 3) := by decide +kernel
theorem dX5_stroke_4 : decode cX5_stroke 4 = .ok (.iload_n 1, 1) := by decide +kernel
theorem dX5_stroke_5 : decode cX5_stroke 5 = .ok (.invokevirtual 77, 3) := by decide +kernel
theorem dX5_stroke_8 : decode cX5_stroke 8 = .ok (.astore_n 2, 1) := by decide +kernel
theorem dX5_stroke_9 : decode cX5_stroke 9 = .ok (.aload_n 2, 1) := by decide +kernel
theorem dX5_stroke_10 : decode cX5_stroke 10 = .ok (.ifnonnull 5, 3) := by decide +kernel
theorem dX5_stroke_13 : decode cX5_stroke 13 = .ok (.iconst (-1), 1) := by decide +kernel
theorem dX5_stroke_14 : decode cX5_stroke 14 = .ok (.ireturn, 1) := by decide +kernel
theorem dX5_stroke_15 : decode cX5_stroke 15 = .ok (.aload_n 2, 1) := by decide +kernel
theorem dX5_stroke_16 : decode cX5_stroke 16 = .ok (.getfield 81, 3) := by decide +kernel
theorem dX5_stroke_19 : decode cX5_stroke 19 = .ok (.iconst 2, 1) := by decide +kernel
theorem dX5_stroke_20 : decode cX5_stroke 20 = .ok (.if_icmp .ne 10, 3) := by decide +kernel
theorem dX5_stroke_23 : decode cX5_stroke 23 = .ok (.aload_n 0, 1) := by decide +kernel
theorem dX5_stroke_24 : decode cX5_stroke 24 = .ok (.invokevirtual 213, 3) := by decide +kernel
theorem dX5_stroke_27 : decode cX5_stroke 27 = .ok (.goto 8, 3) := by decide +kernel
theorem dX5_stroke_30 : decode cX5_stroke 30 = .ok (.aload_n 0, 1) := by decide +kernel
theorem dX5_stroke_31 : decode cX5_stroke 31 = .ok (.aload_n 2, 1) := by decide +kernel
theorem dX5_stroke_32 : decode cX5_stroke 32 = .ok (.invokevirtual 216, 3) := by decide +kernel
theorem dX5_stroke_35 : decode cX5_stroke 35 = .ok (.ireturn, 1) := by decide +kernel
set_option maxRecDepth 20000 in
theorem ggX5_as_X4_layerAt : GoodIn wsX5_as wsX4_layerAt := goodIn_r _ [7, 8, 9, 31, 32, 33, 34] (by decide +kernel) (by decide +kernel)
set_option maxRecDepth 20000 in
theorem gX5_as_X4_layerAt : GoodIn wsX5_as (wsV RX5 77 RX4 yX4_layerAt wsX4_layerAt) := goodIn_app (goodIn_of _ (by decide +kernel)) ggX5_as_X4_layerAt
set_option maxRecDepth 20000 in
theorem ggX5_as_X5_isUpTo : GoodIn wsX5_as wsX5_isUpTo := goodIn_r _ [13] (by decide +kernel) (by decide +kernel)
set_option maxRecDepth 20000 in
theorem gX5_as_X5_isUpTo : GoodIn wsX5_as (va_wsS RX5 50 yX5_isUpTo wsX5_isUpTo) := goodIn_app (goodIn_of _ (by decide +kernel)) ggX5_as_X5_isUpTo
set_option maxRecDepth 20000 in
theorem ggX5_as_X0_isA : GoodIn wsX5_as wsX0_isA := goodIn_r _ [18, 19, 35, 36, 37] (by decide +kernel) (by decide +kernel)
set_option maxRecDepth 20000 in
theorem gX5_as_X0_isA : GoodIn wsX5_as (wsV RX5 219 RX0 yX0_isA wsX0_isA) := goodIn_app (goodIn_of _ (by decide +kernel)) ggX5_as_X0_isA
set_option maxRecDepth 20000 in
theorem ggX5_as_X5_failed : GoodIn wsX5_as wsX5_failed := goodIn_r _ [23, 1, 24, 25, 26, 27, 28, 29, 30] (by decide +kernel) (by decide +kernel)
set_option maxRecDepth 20000 in
theorem gX5_as_X5_failed : GoodIn wsX5_as (wsV RX5 62 RX5 yX5_failed wsX5_failed) := goodIn_app (goodIn_of _ (by decide +kernel)) ggX5_as_X5_failed
theorem dX5_as_0 : decode cX5_as 0 = .ok (.aload_n 0, 1) := by decide +kernel
theorem dX5_as_1 : decode cX5_as 1 = .ok (.iconst 0, 1) := by decide +kernel
theorem dX5_as_2 : decode cX5_as 2 = .ok (.putfield 42, 3) := by decide +kernel
theorem dX5_as_5 : decode cX5_as 5 = .ok (.aload_n 0, 1) := by decide +kernel
theorem dX5_as_6 : decode cX5_as 6 = .ok (.getfield 12, 3) := by decide +kernel
theorem dX5_as_9 : decode cX5_as 9 = .ok (.iload_n 1, 1) := by decide +kernel
theorem dX5_as_10 : decode cX5_as 10 = .ok (.invokevirtual 77, 3) := by decide +kernel
theorem dX5_as_13 : decode cX5_as 13 = .ok (.astore_n 3, 1) := by decide +kernel
theorem dX5_as_14 : decode cX5_as 14 = .ok (.aload_n 3, 1) := by decide +kernel
theorem dX5_as_15 : decode cX5_as 15 = .ok (.ifnonnull 5, 3) := by decide +kernel
theorem dX5_as_18 : decode cX5_as 18 = .ok (.iconst (-1), 1) := by decide +kernel
theorem dX5_as_19 : decode cX5_as 19 = .ok (.ireturn, 1) := by decide +kernel
theorem dX5_as_20 : decode cX5_as 20 = .ok (.iload_n 2, 1) := by decide +kernel
theorem dX5_as_21 : decode cX5_as 21 = .ok (.iconst 2, 1) := by decide +kernel
theorem dX5_as_22 : decode cX5_as 22 = .ok (.invokestatic 50, 3) := by decide +kernel
theorem dX5_as_25 : decode cX5_as 25 = .ok (.ifCond .ne 6, 3) := by decide +kernel
theorem dX5_as_28 : decode cX5_as 28 = .ok (.bipush (-2), 2) := by decide +kernel
theorem dX5_as_30 : decode cX5_as 30 = .ok (.ireturn, 1) := by decide +kernel
theorem dX5_as_31 : decode cX5_as 31 = .ok (.aload_n 3, 1) := by decide +kernel
theorem dX5_as_32 : decode cX5_as 32 = .ok (.iload_n 2, 1) := by decide +kernel
theorem dX5_as_33 : decode cX5_as 33 = .ok (.invokevirtual 219, 3) := by decide +kernel
theorem dX5_as_36 : decode cX5_as 36 = .ok (.ifCond .eq 7, 3) := by decide +kernel
theorem dX5_as_39 : decode cX5_as 39 = .ok (.iconst 1, 1) := by decide +kernel
theorem dX5_as_40 : decode cX5_as 40 = .ok (.goto 8, 3) := by decide +kernel
theorem dX5_as_43 : decode cX5_as 43 = .ok (.aload_n 0, 1) := by decide +kernel
theorem dX5_as_44 : decode cX5_as 44 = .ok (.iconst 2, 1) := by decide +kernel
theorem dX5_as_45 : decode cX5_as 45 = .ok (.invokevirtual 62, 3) := by decide +kernel
theorem dX5_as_48 : decode cX5_as 48 = .ok (.ireturn, 1) := by decide +kernel
theorem dX5_trace_0 : decode cX5_trace 0 = .ok (.aload_n 0, 1) := by decide +kernel
theorem dX5_trace_1 : decode cX5_trace 1 = .ok (.getfield 223, 3) := by decide +kernel
theorem dX5_trace_4 : decode cX5_trace 4 = .ok (.ireturn, 1) := by decide +kernel
theorem dX5_fault_0 : decode cX5_fault 0 = .ok (.aload_n 0, 1) := by decide +kernel
theorem dX5_fault_1 : decode cX5_fault 1 = .ok (.getfield 42, 3) := by decide +kernel
theorem dX5_fault_4 : decode cX5_fault 4 = .ok (.ireturn, 1) := by decide +kernel
set_option maxRecDepth 20000 in
theorem ggX5_many_X4_warmth : GoodIn wsX5_many wsX4_warmth := goodIn_r _ [11, 12, 13, 35, 36, 37, 38] (by decide +kernel) (by decide +kernel)
set_option maxRecDepth 20000 in
theorem gX5_many_X4_warmth : GoodIn wsX5_many (wsV RX5 96 RX4 yX4_warmth wsX4_warmth) := goodIn_app (goodIn_of _ (by decide +kernel)) ggX5_many_X4_warmth
set_option maxRecDepth 20000 in
theorem ggX5_many_X4_heardBy : GoodIn wsX5_many wsX4_heardBy := goodIn_r _ [17, 18, 19, 20, 21, 22, 23, 24, 25, 26, 27, 35, 36, 37, 38, 42, 43, 44] (by decide +kernel) (by decide +kernel)
set_option maxRecDepth 20000 in
theorem gX5_many_X4_heardBy : GoodIn wsX5_many (wsV RX5 102 RX4 yX4_heardBy wsX4_heardBy) := goodIn_app (goodIn_of _ (by decide +kernel)) ggX5_many_X4_heardBy
theorem dX5_many_0 : decode cX5_many 0 = .ok (.iload_n 1, 1) := by decide +kernel
theorem dX5_many_1 : decode cX5_many 1 = .ok (.tableswitch 82 0 4 #[35, 43, 51, 59, 74], 35) := by decide +kernel
theorem dX5_many_36 : decode cX5_many 36 = .ok (.aload_n 0, 1) := by decide +kernel
theorem dX5_many_37 : decode cX5_many 37 = .ok (.getfield 12, 3) := by decide +kernel
theorem dX5_many_40 : decode cX5_many 40 = .ok (.getfield 76, 3) := by decide +kernel
theorem dX5_many_43 : decode cX5_many 43 = .ok (.ireturn, 1) := by decide +kernel
theorem dX5_many_44 : decode cX5_many 44 = .ok (.aload_n 0, 1) := by decide +kernel
theorem dX5_many_45 : decode cX5_many 45 = .ok (.getfield 12, 3) := by decide +kernel
theorem dX5_many_48 : decode cX5_many 48 = .ok (.getfield 109, 3) := by decide +kernel
theorem dX5_many_51 : decode cX5_many 51 = .ok (.ireturn, 1) := by decide +kernel
theorem dX5_many_52 : decode cX5_many 52 = .ok (.aload_n 0, 1) := by decide +kernel
theorem dX5_many_53 : decode cX5_many 53 = .ok (.getfield 12, 3) := by decide +kernel
theorem dX5_many_56 : decode cX5_many 56 = .ok (.getfield 112, 3) := by decide +kernel
theorem dX5_many_59 : decode cX5_many 59 = .ok (.ireturn, 1) := by decide +kernel
theorem dX5_many_60 : decode cX5_many 60 = .ok (.aload_n 0, 1) := by decide +kernel
theorem dX5_many_61 : decode cX5_many 61 = .ok (.getfield 12, 3) := by decide +kernel
theorem dX5_many_64 : decode cX5_many 64 = .ok (.aload_n 0, 1) := by decide +kernel
theorem dX5_many_65 : decode cX5_many 65 = .ok (.getfield 12, 3) := by decide +kernel
theorem dX5_many_68 : decode cX5_many 68 = .ok (.invokevirtual 96, 3) := by decide +kernel
theorem dX5_many_71 : decode cX5_many 71 = .ok (.invokevirtual 102, 3) := by decide +kernel
theorem dX5_many_74 : decode cX5_many 74 = .ok (.ireturn, 1) := by decide +kernel
theorem dX5_many_75 : decode cX5_many 75 = .ok (.aload_n 0, 1) := by decide +kernel
theorem dX5_many_76 : decode cX5_many 76 = .ok (.getfield 24, 3) := by decide +kernel
theorem dX5_many_79 : decode cX5_many 79 = .ok (.getfield 73, 3) := by decide +kernel
theorem dX5_many_82 : decode cX5_many 82 = .ok (.ireturn, 1) := by decide +kernel
theorem dX5_many_83 : decode cX5_many 83 = .ok (.bipush (-2), 2) := by decide +kernel
theorem dX5_many_85 : decode cX5_many 85 = .ok (.ireturn, 1) := by decide +kernel
theorem dX5_isUpTo_0 : decode cX5_isUpTo 0 = .ok (.iload_n 0, 1) := by decide +kernel
theorem dX5_isUpTo_1 : decode cX5_isUpTo 1 = .ok (.ifCond .lt 12, 3) := by decide +kernel
theorem dX5_isUpTo_4 : decode cX5_isUpTo 4 = .ok (.iload_n 0, 1) := by decide +kernel
theorem dX5_isUpTo_5 : decode cX5_isUpTo 5 = .ok (.iload_n 1, 1) := by decide +kernel
theorem dX5_isUpTo_6 : decode cX5_isUpTo 6 = .ok (.if_icmp .gt 7, 3) := by decide +kernel
theorem dX5_isUpTo_9 : decode cX5_isUpTo 9 = .ok (.iconst 1, 1) := by decide +kernel
theorem dX5_isUpTo_10 : decode cX5_isUpTo 10 = .ok (.goto 4, 3) := by decide +kernel
theorem dX5_isUpTo_13 : decode cX5_isUpTo 13 = .ok (.iconst 0, 1) := by decide +kernel
theorem dX5_isUpTo_14 : decode cX5_isUpTo 14 = .ok (.ireturn, 1) := by decide +kernel
theorem dX5_setOfFirst_0 : decode cX5_setOfFirst 0 = .ok (.iconst 1, 1) := by decide +kernel
theorem dX5_setOfFirst_1 : decode cX5_setOfFirst 1 = .ok (.iload_n 0, 1) := by decide +kernel
theorem dX5_setOfFirst_2 : decode cX5_setOfFirst 2 = .ok (.ishl, 1) := by decide +kernel
theorem dX5_setOfFirst_3 : decode cX5_setOfFirst 3 = .ok (.iconst 1, 1) := by decide +kernel
theorem dX5_setOfFirst_4 : decode cX5_setOfFirst 4 = .ok (.isub, 1) := by decide +kernel
theorem dX5_setOfFirst_5 : decode cX5_setOfFirst 5 = .ok (.ireturn, 1) := by decide +kernel
theorem dX5_greatestShared_0 : decode cX5_greatestShared 0 = .ok (.iload_n 1, 1) := by decide +kernel
theorem dX5_greatestShared_1 : decode cX5_greatestShared 1 = .ok (.istore_n 2, 1) := by decide +kernel
theorem dX5_greatestShared_2 : decode cX5_greatestShared 2 = .ok (.iload_n 2, 1) := by decide +kernel
theorem dX5_greatestShared_3 : decode cX5_greatestShared 3 = .ok (.iconst 1, 1) := by decide +kernel
theorem dX5_greatestShared_4 : decode cX5_greatestShared 4 = .ok (.if_icmp .le 23, 3) := by decide +kernel
theorem dX5_greatestShared_7 : decode cX5_greatestShared 7 = .ok (.iload_n 0, 1) := by decide +kernel
theorem dX5_greatestShared_8 : decode cX5_greatestShared 8 = .ok (.iload_n 2, 1) := by decide +kernel
theorem dX5_greatestShared_9 : decode cX5_greatestShared 9 = .ok (.irem, 1) := by decide +kernel
theorem dX5_greatestShared_10 : decode cX5_greatestShared 10 = .ok (.ifCond .ne 11, 3) := by decide +kernel
theorem dX5_greatestShared_13 : decode cX5_greatestShared 13 = .ok (.iload_n 1, 1) := by decide +kernel
theorem dX5_greatestShared_14 : decode cX5_greatestShared 14 = .ok (.iload_n 2, 1) := by decide +kernel
theorem dX5_greatestShared_15 : decode cX5_greatestShared 15 = .ok (.irem, 1) := by decide +kernel
theorem dX5_greatestShared_16 : decode cX5_greatestShared 16 = .ok (.ifCond .ne 5, 3) := by decide +kernel
theorem dX5_greatestShared_19 : decode cX5_greatestShared 19 = .ok (.iload_n 2, 1) := by decide +kernel
theorem dX5_greatestShared_20 : decode cX5_greatestShared 20 = .ok (.ireturn, 1) := by decide +kernel
theorem dX5_greatestShared_21 : decode cX5_greatestShared 21 = .ok (.iinc 2 (-1), 3) := by decide +kernel
theorem dX5_greatestShared_24 : decode cX5_greatestShared 24 = .ok (.goto (-22), 3) := by decide +kernel
theorem dX5_greatestShared_27 : decode cX5_greatestShared 27 = .ok (.iconst 1, 1) := by decide +kernel
theorem dX5_greatestShared_28 : decode cX5_greatestShared 28 = .ok (.ireturn, 1) := by decide +kernel
set_option maxRecDepth 20000 in
theorem ggX5_sheetAt_X5_isUpTo : GoodIn wsX5_sheetAt wsX5_isUpTo := goodIn_r _ [5] (by decide +kernel) (by decide +kernel)
set_option maxRecDepth 20000 in
theorem gX5_sheetAt_X5_isUpTo : GoodIn wsX5_sheetAt (va_wsS RX5 50 yX5_isUpTo wsX5_isUpTo) := goodIn_app (goodIn_of _ (by decide +kernel)) ggX5_sheetAt_X5_isUpTo
theorem dX5_sheetAt_0 : decode cX5_sheetAt 0 = .ok (.iload_n 1, 1) := by decide +kernel
theorem dX5_sheetAt_1 : decode cX5_sheetAt 1 = .ok (.iconst 3, 1) := by decide +kernel
theorem dX5_sheetAt_2 : decode cX5_sheetAt 2 = .ok (.invokestatic 50, 3) := by decide +kernel
theorem dX5_sheetAt_5 : decode cX5_sheetAt 5 = .ok (.ifCond .eq 12, 3) := by decide +kernel
theorem dX5_sheetAt_8 : decode cX5_sheetAt 8 = .ok (.aload_n 0, 1) := by decide +kernel
theorem dX5_sheetAt_9 : decode cX5_sheetAt 9 = .ok (.getfield 37, 3) := by decide +kernel
theorem dX5_sheetAt_12 : decode cX5_sheetAt 12 = .ok (.iload_n 1, 1) := by decide +kernel
theorem dX5_sheetAt_13 : decode cX5_sheetAt 13 = .ok (.aaload, 1) := by decide +kernel
theorem dX5_sheetAt_14 : decode cX5_sheetAt 14 = .ok (.goto 4, 3) := by decide +kernel
theorem dX5_sheetAt_17 : decode cX5_sheetAt 17 = .ok (.aconst_null, 1) := by decide +kernel
theorem dX5_sheetAt_18 : decode cX5_sheetAt 18 = .ok (.areturn, 1) := by decide +kernel
theorem dX5_failed_0 : decode cX5_failed 0 = .ok (.aload_n 0, 1) := by decide +kernel
theorem dX5_failed_1 : decode cX5_failed 1 = .ok (.iload_n 1, 1) := by decide +kernel
theorem dX5_failed_2 : decode cX5_failed 2 = .ok (.putfield 42, 3) := by decide +kernel
theorem dX5_failed_5 : decode cX5_failed 5 = .ok (.bipush (-10), 2) := by decide +kernel
theorem dX5_failed_7 : decode cX5_failed 7 = .ok (.iload_n 1, 1) := by decide +kernel
theorem dX5_failed_8 : decode cX5_failed 8 = .ok (.isub, 1) := by decide +kernel
theorem dX5_failed_9 : decode cX5_failed 9 = .ok (.ireturn, 1) := by decide +kernel
set_option maxRecDepth 20000 in
theorem ggX5_firstFault_X3_getCell : GoodIn wsX5_firstFault wsX3_getCell := goodIn_r _ [5, 6, 7, 18, 19, 20, 21] (by decide +kernel) (by decide +kernel)
set_option maxRecDepth 20000 in
theorem gX5_firstFault_X3_getCell : GoodIn wsX5_firstFault (wsV RX5 186 RX3 yX3_getCell wsX3_getCell) := goodIn_app (goodIn_of _ (by decide +kernel)) ggX5_firstFault_X3_getCell
set_option maxRecDepth 20000 in
theorem ggX5_firstFault_X5_goesOn : GoodIn wsX5_firstFault wsX5_goesOn := goodIn_r _ [11, 12, 13, 10, 14, 15, 16, 17] (by decide +kernel) (by decide +kernel)
set_option maxRecDepth 20000 in
theorem gX5_firstFault_X5_goesOn : GoodIn wsX5_firstFault (va_wsS RX5 226 yX5_goesOn wsX5_goesOn) := goodIn_app (goodIn_of _ (by decide +kernel)) ggX5_firstFault_X5_goesOn
theorem dX5_firstFault_0 : decode cX5_firstFault 0 = .ok (.iconst 0, 1) := by decide +kernel
theorem dX5_firstFault_1 : decode cX5_firstFault 1 = .ok (.istore_n 3, 1) := by decide +kernel
theorem dX5_firstFault_2 : decode cX5_firstFault 2 = .ok (.iload_n 3, 1) := by decide +kernel
theorem dX5_firstFault_3 : decode cX5_firstFault 3 = .ok (.iload_n 2, 1) := by decide +kernel
theorem dX5_firstFault_4 : decode cX5_firstFault 4 = .ok (.if_icmp .ge 25, 3) := by decide +kernel
theorem dX5_firstFault_7 : decode cX5_firstFault 7 = .ok (.iload_n 3, 1) := by decide +kernel
theorem dX5_firstFault_8 : decode cX5_firstFault 8 = .ok (.aload_n 0, 1) := by decide +kernel
theorem dX5_firstFault_9 : decode cX5_firstFault 9 = .ok (.iload_n 1, 1) := by decide +kernel
theorem dX5_firstFault_10 : decode cX5_firstFault 10 = .ok (.iload_n 3, 1) := by decide +kernel
theorem dX5_firstFault_11 : decode cX5_firstFault 11 = .ok (.iadd, 1) := by decide +kernel
theorem dX5_firstFault_12 : decode cX5_firstFault 12 = .ok (.invokevirtual 186, 3) := by decide +kernel
theorem dX5_firstFault_15 : decode cX5_firstFault 15 = .ok (.invokestatic 226, 3) := by decide +kernel
theorem dX5_firstFault_18 : decode cX5_firstFault 18 = .ok (.ifCond .ne 5, 3) := by decide +kernel
theorem dX5_firstFault_21 : decode cX5_firstFault 21 = .ok (.iload_n 3, 1) := by decide +kernel
theorem dX5_firstFault_22 : decode cX5_firstFault 22 = .ok (.ireturn, 1) := by decide +kernel
theorem dX5_firstFault_23 : decode cX5_firstFault 23 = .ok (.iinc 3 1, 3) := by decide +kernel
theorem dX5_firstFault_26 : decode cX5_firstFault 26 = .ok (.goto (-24), 3) := by decide +kernel
theorem dX5_firstFault_29 : decode cX5_firstFault 29 = .ok (.iload_n 2, 1) := by decide +kernel
theorem dX5_firstFault_30 : decode cX5_firstFault 30 = .ok (.bipush 11, 2) := by decide +kernel
theorem dX5_firstFault_32 : decode cX5_firstFault 32 = .ok (.if_icmp .lt 15, 3) := by decide +kernel
theorem dX5_firstFault_35 : decode cX5_firstFault 35 = .ok (.iload_n 2, 1) := by decide +kernel
theorem dX5_firstFault_36 : decode cX5_firstFault 36 = .ok (.iconst 3, 1) := by decide +kernel
theorem dX5_firstFault_37 : decode cX5_firstFault 37 = .ok (.isub, 1) := by decide +kernel
theorem dX5_firstFault_38 : decode cX5_firstFault 38 = .ok (.iconst 4, 1) := by decide +kernel
theorem dX5_firstFault_39 : decode cX5_firstFault 39 = .ok (.irem, 1) := by decide +kernel
theorem dX5_firstFault_40 : decode cX5_firstFault 40 = .ok (.ifCond .ne 7, 3) := by decide +kernel
theorem dX5_firstFault_43 : decode cX5_firstFault 43 = .ok (.iconst 1, 1) := by decide +kernel
theorem dX5_firstFault_44 : decode cX5_firstFault 44 = .ok (.goto 4, 3) := by decide +kernel
theorem dX5_firstFault_47 : decode cX5_firstFault 47 = .ok (.iconst 0, 1) := by decide +kernel
theorem dX5_firstFault_48 : decode cX5_firstFault 48 = .ok (.istore_n 3, 1) := by decide +kernel
theorem dX5_firstFault_49 : decode cX5_firstFault 49 = .ok (.iload_n 3, 1) := by decide +kernel
theorem dX5_firstFault_50 : decode cX5_firstFault 50 = .ok (.ifCond .eq 7, 3) := by decide +kernel
theorem dX5_firstFault_53 : decode cX5_firstFault 53 = .ok (.iconst (-1), 1) := by decide +kernel
theorem dX5_firstFault_54 : decode cX5_firstFault 54 = .ok (.goto 4, 3) := by decide +kernel
theorem dX5_firstFault_57 : decode cX5_firstFault 57 = .ok (.iload_n 2, 1) := by decide +kernel
theorem dX5_firstFault_58 : decode cX5_firstFault 58 = .ok (.ireturn, 1) := by decide +kernel
set_option maxRecDepth 20000 in
theorem ggX5_goesOn_X5_isDigit : GoodIn wsX5_goesOn wsX5_isDigit := goodIn_r _ [4] (by decide +kernel) (by decide +kernel)
set_option maxRecDepth 20000 in
theorem gX5_goesOn_X5_isDigit : GoodIn wsX5_goesOn (va_wsS RX5 229 yX5_isDigit wsX5_isDigit) := goodIn_app (goodIn_of _ (by decide +kernel)) ggX5_goesOn_X5_isDigit
set_option maxRecDepth 20000 in
theorem ggX5_goesOn_X5_kindOf : GoodIn wsX5_goesOn wsX5_kindOf := goodIn_r _ [7] (by decide +kernel) (by decide +kernel)
set_option maxRecDepth 20000 in
theorem gX5_goesOn_X5_kindOf : GoodIn wsX5_goesOn (va_wsS RX5 232 yX5_kindOf wsX5_kindOf) := goodIn_app (goodIn_of _ (by decide +kernel)) ggX5_goesOn_X5_kindOf
theorem dX5_goesOn_0 : decode cX5_goesOn 0 = .ok (.iload_n 0, 1) := by decide +kernel
theorem dX5_goesOn_1 : decode cX5_goesOn 1 = .ok (.ifCond .ne 15, 3) := by decide +kernel
theorem dX5_goesOn_4 : decode cX5_goesOn 4 = .ok (.iload_n 1, 1) := by decide +kernel
theorem dX5_goesOn_5 : decode cX5_goesOn 5 = .ok (.bipush 119, 2) := by decide +kernel
theorem dX5_goesOn_7 : decode cX5_goesOn 7 = .ok (.if_icmp .ne 7, 3) := by decide +kernel
theorem dX5_goesOn_10 : decode cX5_goesOn 10 = .ok (.iconst 1, 1) := by decide +kernel
theorem dX5_goesOn_11 : decode cX5_goesOn 11 = .ok (.goto 4, 3) := by decide +kernel
theorem dX5_goesOn_14 : decode cX5_goesOn 14 = .ok (.iconst 0, 1) := by decide +kernel
theorem dX5_goesOn_15 : decode cX5_goesOn 15 = .ok (.ireturn, 1) := by decide +kernel
theorem dX5_goesOn_16 : decode cX5_goesOn 16 = .ok (.iload_n 0, 1) := by decide +kernel
theorem dX5_goesOn_17 : decode cX5_goesOn 17 = .ok (.iconst 3, 1) := by decide +kernel
theorem dX5_goesOn_18 : decode cX5_goesOn 18 = .ok (.if_icmp .ge 8, 3) := by decide +kernel
theorem dX5_goesOn_21 : decode cX5_goesOn 21 = .ok (.iload_n 1, 1) := by decide +kernel
theorem dX5_goesOn_22 : decode cX5_goesOn 22 = .ok (.invokestatic 229, 3) := by decide +kernel
theorem dX5_goesOn_25 : decode cX5_goesOn 25 = .ok (.ireturn, 1) := by decide +kernel
theorem dX5_goesOn_26 : decode cX5_goesOn 26 = .ok (.iload_n 0, 1) := by decide +kernel
theorem dX5_goesOn_27 : decode cX5_goesOn 27 = .ok (.iconst 3, 1) := by decide +kernel
theorem dX5_goesOn_28 : decode cX5_goesOn 28 = .ok (.isub, 1) := by decide +kernel
theorem dX5_goesOn_29 : decode cX5_goesOn 29 = .ok (.iconst 4, 1) := by decide +kernel
theorem dX5_goesOn_30 : decode cX5_goesOn 30 = .ok (.irem, 1) := by decide +kernel
theorem dX5_goesOn_31 : decode cX5_goesOn 31 = .ok (.istore_n 2, 1) := by decide +kernel
theorem dX5_goesOn_32 : decode cX5_goesOn 32 = .ok (.iload_n 2, 1) := by decide +kernel
theorem dX5_goesOn_33 : decode cX5_goesOn 33 = .ok (.ifCond .ne 25, 3) := by decide +kernel
theorem dX5_goesOn_36 : decode cX5_goesOn 36 = .ok (.iload_n 1, 1) := by decide +kernel
theorem dX5_goesOn_37 : decode cX5_goesOn 37 = .ok (.bipush 59, 2) := by decide +kernel
theorem dX5_goesOn_39 : decode cX5_goesOn 39 = .ok (.if_icmp .ne 17, 3) := by decide +kernel
theorem dX5_goesOn_42 : decode cX5_goesOn 42 = .ok (.iload_n 0, 1) := by decide +kernel
theorem dX5_goesOn_43 : decode cX5_goesOn 43 = .ok (.iconst 3, 1) := by decide +kernel
theorem dX5_goesOn_44 : decode cX5_goesOn 44 = .ok (.isub, 1) := by decide +kernel
theorem dX5_goesOn_45 : decode cX5_goesOn 45 = .ok (.iconst 4, 1) := by decide +kernel
theorem dX5_goesOn_46 : decode cX5_goesOn 46 = .ok (.idiv, 1) := by decide +kernel
theorem dX5_goesOn_47 : decode cX5_goesOn 47 = .ok (.bipush 6, 2) := by decide +kernel
theorem dX5_goesOn_49 : decode cX5_goesOn 49 = .ok (.if_icmp .ge 7, 3) := by decide +kernel
theorem dX5_goesOn_52 : decode cX5_goesOn 52 = .ok (.iconst 1, 1) := by decide +kernel
theorem dX5_goesOn_53 : decode cX5_goesOn 53 = .ok (.goto 4, 3) := by decide +kernel
theorem dX5_goesOn_56 : decode cX5_goesOn 56 = .ok (.iconst 0, 1) := by decide +kernel
theorem dX5_goesOn_57 : decode cX5_goesOn 57 = .ok (.ireturn, 1) := by decide +kernel
theorem dX5_goesOn_58 : decode cX5_goesOn 58 = .ok (.iload_n 2, 1) := by decide +kernel
theorem dX5_goesOn_59 : decode cX5_goesOn 59 = .ok (.iconst 1, 1) := by decide +kernel
theorem dX5_goesOn_60 : decode cX5_goesOn 60 = .ok (.if_icmp .ne 20, 3) := by decide +kernel
theorem dX5_goesOn_63 : decode cX5_goesOn 63 = .ok (.iload_n 1, 1) := by decide +kernel
theorem dX5_goesOn_64 : decode cX5_goesOn 64 = .ok (.invokestatic 232, 3) := by decide +kernel
theorem dX5_goesOn_67 : decode cX5_goesOn 67 = .ok (.bipush (-9), 2) := by decide +kernel
theorem dX5_goesOn_69 : decode cX5_goesOn 69 = .ok (.if_icmp .eq 7, 3) := by decide +kernel
theorem dX5_goesOn_72 : decode cX5_goesOn 72 = .ok (.iconst 1, 1) := by decide +kernel
theorem dX5_goesOn_73 : decode cX5_goesOn 73 = .ok (.goto 11, 3) := by decide +kernel
theorem dX5_goesOn_76 : decode cX5_goesOn 76 = .ok (.iconst 0, 1) := by decide +kernel
theorem dX5_goesOn_77 : decode cX5_goesOn 77 = .ok (.goto 7, 3) := by decide +kernel
theorem dX5_goesOn_80 : decode cX5_goesOn 80 = .ok (.iload_n 1, 1) := by decide +kernel
theorem dX5_goesOn_81 : decode cX5_goesOn 81 = .ok (.invokestatic 229, 3) := by decide +kernel
theorem dX5_goesOn_84 : decode cX5_goesOn 84 = .ok (.ireturn, 1) := by decide +kernel
theorem dX5_isDigit_0 : decode cX5_isDigit 0 = .ok (.iload_n 0, 1) := by decide +kernel
theorem dX5_isDigit_1 : decode cX5_isDigit 1 = .ok (.bipush 48, 2) := by decide +kernel
theorem dX5_isDigit_3 : decode cX5_isDigit 3 = .ok (.if_icmp .lt 13, 3) := by decide +kernel
theorem dX5_isDigit_6 : decode cX5_isDigit 6 = .ok (.iload_n 0, 1) := by decide +kernel
theorem dX5_isDigit_7 : decode cX5_isDigit 7 = .ok (.bipush 57, 2) := by decide +kernel
theorem dX5_isDigit_9 : decode cX5_isDigit 9 = .ok (.if_icmp .gt 7, 3) := by decide +kernel
theorem dX5_isDigit_12 : decode cX5_isDigit 12 = .ok (.iconst 1, 1) := by decide +kernel
theorem dX5_isDigit_13 : decode cX5_isDigit 13 = .ok (.goto 4, 3) := by decide +kernel
theorem dX5_isDigit_16 : decode cX5_isDigit 16 = .ok (.iconst 0, 1) := by decide +kernel
theorem dX5_isDigit_17 : decode cX5_isDigit 17 = .ok (.ireturn, 1) := by decide +kernel
theorem dX5_kindOf_0 : decode cX5_kindOf 0 = .ok (.iload_n 0, 1) := by decide +kernel
theorem dX5_kindOf_1 : decode cX5_kindOf 1 = .ok (.tableswitch 33 114 116 #[31, 27, 29], 27) := by decide +kernel
theorem dX5_kindOf_28 : decode cX5_kindOf 28 = .ok (.iconst 0, 1) := by decide +kernel
theorem dX5_kindOf_29 : decode cX5_kindOf 29 = .ok (.ireturn, 1) := by decide +kernel
theorem dX5_kindOf_30 : decode cX5_kindOf 30 = .ok (.iconst 1, 1) := by decide +kernel
theorem dX5_kindOf_31 : decode cX5_kindOf 31 = .ok (.ireturn, 1) := by decide +kernel
theorem dX5_kindOf_32 : decode cX5_kindOf 32 = .ok (.iconst 2, 1) := by decide +kernel
theorem dX5_kindOf_33 : decode cX5_kindOf 33 = .ok (.ireturn, 1) := by decide +kernel
theorem dX5_kindOf_34 : decode cX5_kindOf 34 = .ok (.bipush (-9), 2) := by decide +kernel
theorem dX5_kindOf_36 : decode cX5_kindOf 36 = .ok (.ireturn, 1) := by decide +kernel
set_option maxRecDepth 20000 in
theorem ggX5_areActs_X3_getCell : GoodIn wsX5_areActs wsX3_getCell := goodIn_r _ [5, 6, 7, 15, 16, 17, 18] (by decide +kernel) (by decide +kernel)
set_option maxRecDepth 20000 in
theorem gX5_areActs_X3_getCell : GoodIn wsX5_areActs (wsV RX5 186 RX3 yX3_getCell wsX3_getCell) := goodIn_app (goodIn_of _ (by decide +kernel)) ggX5_areActs_X3_getCell
set_option maxRecDepth 20000 in
theorem ggX5_areActs_X5_isAct : GoodIn wsX5_areActs wsX5_isAct := goodIn_r _ [11, 12, 13, 10, 14] (by decide +kernel) (by decide +kernel)
set_option maxRecDepth 20000 in
theorem gX5_areActs_X5_isAct : GoodIn wsX5_areActs (va_wsS RX5 235 yX5_isAct wsX5_isAct) := goodIn_app (goodIn_of _ (by decide +kernel)) ggX5_areActs_X5_isAct
theorem dX5_areActs_0 : decode cX5_areActs 0 = .ok (.iconst 0, 1) := by decide +kernel
theorem dX5_areActs_1 : decode cX5_areActs 1 = .ok (.istore_n 3, 1) := by decide +kernel
theorem dX5_areActs_2 : decode cX5_areActs 2 = .ok (.iload_n 3, 1) := by decide +kernel
theorem dX5_areActs_3 : decode cX5_areActs 3 = .ok (.iload_n 2, 1) := by decide +kernel
theorem dX5_areActs_4 : decode cX5_areActs 4 = .ok (.if_icmp .ge 38, 3) := by decide +kernel
theorem dX5_areActs_7 : decode cX5_areActs 7 = .ok (.iload_n 1, 1) := by decide +kernel
theorem dX5_areActs_8 : decode cX5_areActs 8 = .ok (.iconst 2, 1) := by decide +kernel
theorem dX5_areActs_9 : decode cX5_areActs 9 = .ok (.iload_n 3, 1) := by decide +kernel
theorem dX5_areActs_10 : decode cX5_areActs 10 = .ok (.imul, 1) := by decide +kernel
theorem dX5_areActs_11 : decode cX5_areActs 11 = .ok (.iadd, 1) := by decide +kernel
theorem dX5_areActs_12 : decode cX5_areActs 12 = .ok (.istore 4, 2) := by decide +kernel
theorem dX5_areActs_14 : decode cX5_areActs 14 = .ok (.aload_n 0, 1) := by decide +kernel
theorem dX5_areActs_15 : decode cX5_areActs 15 = .ok (.iload 4, 2) := by decide +kernel
theorem dX5_areActs_17 : decode cX5_areActs 17 = .ok (.invokevirtual 186, 3) := by decide +kernel
theorem dX5_areActs_20 : decode cX5_areActs 20 = .ok (.aload_n 0, 1) := by decide +kernel
theorem dX5_areActs_21 : decode cX5_areActs 21 = .ok (.iload 4, 2) := by decide +kernel
theorem dX5_areActs_23 : decode cX5_areActs 23 = .ok (.iconst 1, 1) := by decide +kernel
theorem dX5_areActs_24 : decode cX5_areActs 24 = .ok (.iadd, 1) := by decide +kernel
theorem dX5_areActs_25 : decode cX5_areActs 25 = .ok (.invokevirtual 186, 3) := by decide +kernel
theorem dX5_areActs_28 : decode cX5_areActs 28 = .ok (.invokestatic 235, 3) := by decide +kernel
theorem dX5_areActs_31 : decode cX5_areActs 31 = .ok (.ifCond .ne 5, 3) := by decide +kernel
theorem dX5_areActs_34 : decode cX5_areActs 34 = .ok (.iconst 0, 1) := by decide +kernel
theorem dX5_areActs_35 : decode cX5_areActs 35 = .ok (.ireturn, 1) := by decide +kernel
theorem dX5_areActs_36 : decode cX5_areActs 36 = .ok (.iinc 3 1, 3) := by decide +kernel
theorem dX5_areActs_39 : decode cX5_areActs 39 = .ok (.goto (-37), 3) := by decide +kernel
theorem dX5_areActs_42 : decode cX5_areActs 42 = .ok (.iconst 1, 1) := by decide +kernel
theorem dX5_areActs_43 : decode cX5_areActs 43 = .ok (.ireturn, 1) := by decide +kernel
set_option maxRecDepth 20000 in
theorem ggX5_isAct_X5_isUpTo : GoodIn wsX5_isAct wsX5_isUpTo := goodIn_r _ [4] (by decide +kernel) (by decide +kernel)
set_option maxRecDepth 20000 in
theorem gX5_isAct_X5_isUpTo : GoodIn wsX5_isAct (va_wsS RX5 50 yX5_isUpTo wsX5_isUpTo) := goodIn_app (goodIn_of _ (by decide +kernel)) ggX5_isAct_X5_isUpTo
theorem dX5_isAct_0 : decode cX5_isAct 0 = .ok (.iload_n 0, 1) := by decide +kernel
theorem dX5_isAct_1 : decode cX5_isAct 1 = .ok (.tableswitch 55 0 3 #[31, 38, 45, 38], 31) := by decide +kernel
theorem dX5_isAct_32 : decode cX5_isAct 32 = .ok (.iload_n 1, 1) := by decide +kernel
theorem dX5_isAct_33 : decode cX5_isAct 33 = .ok (.bipush 20, 2) := by decide +kernel
theorem dX5_isAct_35 : decode cX5_isAct 35 = .ok (.invokestatic 50, 3) := by decide +kernel
theorem dX5_isAct_38 : decode cX5_isAct 38 = .ok (.ireturn, 1) := by decide +kernel
theorem dX5_isAct_39 : decode cX5_isAct 39 = .ok (.iload_n 1, 1) := by decide +kernel
theorem dX5_isAct_40 : decode cX5_isAct 40 = .ok (.bipush 9, 2) := by decide +kernel
theorem dX5_isAct_42 : decode cX5_isAct 42 = .ok (.invokestatic 50, 3) := by decide +kernel
theorem dX5_isAct_45 : decode cX5_isAct 45 = .ok (.ireturn, 1) := by decide +kernel
theorem dX5_isAct_46 : decode cX5_isAct 46 = .ok (.iload_n 1, 1) := by decide +kernel
theorem dX5_isAct_47 : decode cX5_isAct 47 = .ok (.ifCond .ne 7, 3) := by decide +kernel
theorem dX5_isAct_50 : decode cX5_isAct 50 = .ok (.iconst 1, 1) := by decide +kernel
theorem dX5_isAct_51 : decode cX5_isAct 51 = .ok (.goto 4, 3) := by decide +kernel
theorem dX5_isAct_54 : decode cX5_isAct 54 = .ok (.iconst 0, 1) := by decide +kernel
theorem dX5_isAct_55 : decode cX5_isAct 55 = .ok (.ireturn, 1) := by decide +kernel
theorem dX5_isAct_56 : decode cX5_isAct 56 = .ok (.iconst 0, 1) := by decide +kernel
theorem dX5_isAct_57 : decode cX5_isAct 57 = .ok (.ireturn, 1) := by decide +kernel
set_option maxRecDepth 20000 in
theorem ggX5_afterDays_X4_become : GoodIn wsX5_afterDays wsX4_become := goodIn_r _ [8, 9, 10, 11, 7, 12, 13, 14, 15, 16, 17, 18, 19, 20, 21, 22, 23, 24, 25, 26, 27, 28, 29, 30, 31, 32, 33, 34, 35, 36, 37, 38, 39, 40, 41, 42, 43, 108, 109, 110, 111, 112, 113, 114] (by decide +kernel) (by decide +kernel)
set_option maxRecDepth 20000 in
theorem gX5_afterDays_X4_become : GoodIn wsX5_afterDays (wsV RX5 238 RX4 yX4_become wsX4_become) := goodIn_app (goodIn_of _ (by decide +kernel)) ggX5_afterDays_X4_become
set_option maxRecDepth 20000 in
theorem ggX5_afterDays_X3_getCell : GoodIn wsX5_afterDays wsX3_getCell := goodIn_r _ [48, 49, 50, 115, 116, 117, 118] (by decide +kernel) (by decide +kernel)
set_option maxRecDepth 20000 in
theorem gX5_afterDays_X3_getCell : GoodIn wsX5_afterDays (wsV RX5 186 RX3 yX3_getCell wsX3_getCell) := goodIn_app (goodIn_of _ (by decide +kernel)) ggX5_afterDays_X3_getCell
set_option maxRecDepth 20000 in
theorem ggX5_afterDays_X4_doAct : GoodIn wsX5_afterDays wsX4_doAct := goodIn_r _ [54, 13, 14, 55, 56, 57, 7, 58, 15, 24, 59, 60, 61, 62, 63, 64, 65, 66, 67, 68, 69, 39, 70, 41, 42, 71, 72, 73, 74, 43, 75, 37, 38, 40, 76, 77, 78, 79, 36, 108, 109, 110, 111, 112, 113, 114] (by decide +kernel) (by decide +kernel)
set_option maxRecDepth 20000 in
theorem gX5_afterDays_X4_doAct : GoodIn wsX5_afterDays (wsV RX5 242 RX4 yX4_doAct wsX4_doAct) := goodIn_app (goodIn_of _ (by decide +kernel)) ggX5_afterDays_X4_doAct
set_option maxRecDepth 20000 in
theorem ggX5_afterDays_X4_warmth : GoodIn wsX5_afterDays wsX4_warmth := goodIn_r _ [62, 13, 14, 108, 109, 110, 111] (by decide +kernel) (by decide +kernel)
set_option maxRecDepth 20000 in
theorem gX5_afterDays_X4_warmth : GoodIn wsX5_afterDays (wsV RX5 96 RX4 yX4_warmth wsX4_warmth) := goodIn_app (goodIn_of _ (by decide +kernel)) ggX5_afterDays_X4_warmth
set_option maxRecDepth 20000 in
theorem ggX5_afterDays_X4_heardBy : GoodIn wsX5_afterDays wsX4_heardBy := goodIn_r _ [84, 15, 24, 29, 67, 68, 69, 39, 70, 41, 42, 108, 109, 110, 111, 112, 113, 114] (by decide +kernel) (by decide +kernel)
set_option maxRecDepth 20000 in
theorem gX5_afterDays_X4_heardBy : GoodIn wsX5_afterDays (wsV RX5 102 RX4 yX4_heardBy wsX4_heardBy) := goodIn_app (goodIn_of _ (by decide +kernel)) ggX5_afterDays_X4_heardBy
set_option maxRecDepth 20000 in
theorem ggX5_afterDays_X4_counselBy : GoodIn wsX5_afterDays wsX4_counselBy := goodIn_r _ [88, 24, 31, 89, 82, 83, 7, 84, 15, 29, 67, 68, 69, 39, 70, 41, 42, 90, 91, 92, 93, 94, 95, 96, 108, 109, 110, 111, 112, 113, 114] (by decide +kernel) (by decide +kernel)
set_option maxRecDepth 20000 in
theorem gX5_afterDays_X4_counselBy : GoodIn wsX5_afterDays (wsV RX5 118 RX4 yX4_counselBy wsX4_counselBy) := goodIn_app (goodIn_of _ (by decide +kernel)) ggX5_afterDays_X4_counselBy
set_option maxRecDepth 20000 in
theorem ggX5_afterDays_X5_setOfFirst : GoodIn wsX5_afterDays wsX5_setOfFirst := goodIn_r _ [100] (by decide +kernel) (by decide +kernel)
set_option maxRecDepth 20000 in
theorem gX5_afterDays_X5_setOfFirst : GoodIn wsX5_afterDays (va_wsS RX5 115 yX5_setOfFirst wsX5_setOfFirst) := goodIn_app (goodIn_of _ (by decide +kernel)) ggX5_afterDays_X5_setOfFirst
theorem dX5_afterDays_0 : decode cX5_afterDays 0 = .ok (.aload_n 0, 1) := by decide +kernel
theorem dX5_afterDays_1 : decode cX5_afterDays 1 = .ok (.getfield 18, 3) := by decide +kernel
theorem dX5_afterDays_4 : decode cX5_afterDays 4 = .ok (.aload_n 0, 1) := by decide +kernel
theorem dX5_afterDays_5 : decode cX5_afterDays 5 = .ok (.getfield 12, 3) := by decide +kernel
theorem dX5_afterDays_8 : decode cX5_afterDays 8 = .ok (.invokevirtual 238, 3) := by decide +kernel
theorem dX5_afterDays_11 : decode cX5_afterDays 11 = .ok (.iconst 0, 1) := by decide +kernel
theorem dX5_afterDays_12 : decode cX5_afterDays 12 = .ok (.istore 5, 2) := by decide +kernel
theorem dX5_afterDays_14 : decode cX5_afterDays 14 = .ok (.iconst 0, 1) := by decide +kernel
theorem dX5_afterDays_15 : decode cX5_afterDays 15 = .ok (.istore 6, 2) := by decide +kernel
theorem dX5_afterDays_17 : decode cX5_afterDays 17 = .ok (.iload 6, 2) := by decide +kernel
theorem dX5_afterDays_19 : decode cX5_afterDays 19 = .ok (.iload_n 3, 1) := by decide +kernel
theorem dX5_afterDays_20 : decode cX5_afterDays 20 = .ok (.if_icmp .ge 78, 3) := by decide +kernel
theorem dX5_afterDays_23 : decode cX5_afterDays 23 = .ok (.iload_n 2, 1) := by decide +kernel
theorem dX5_afterDays_24 : decode cX5_afterDays 24 = .ok (.iconst 2, 1) := by decide +kernel
theorem dX5_afterDays_25 : decode cX5_afterDays 25 = .ok (.iload 6, 2) := by decide +kernel
theorem dX5_afterDays_27 : decode cX5_afterDays 27 = .ok (.imul, 1) := by decide +kernel
theorem dX5_afterDays_28 : decode cX5_afterDays 28 = .ok (.iadd, 1) := by decide +kernel
theorem dX5_afterDays_29 : decode cX5_afterDays 29 = .ok (.istore 7, 2) := by decide +kernel
theorem dX5_afterDays_31 : decode cX5_afterDays 31 = .ok (.aload_n 0, 1) := by decide +kernel
theorem dX5_afterDays_32 : decode cX5_afterDays 32 = .ok (.getfield 18, 3) := by decide +kernel
theorem dX5_afterDays_35 : decode cX5_afterDays 35 = .ok (.aload_n 1, 1) := by decide +kernel
theorem dX5_afterDays_36 : decode cX5_afterDays 36 = .ok (.iload 7, 2) := by decide +kernel
theorem dX5_afterDays_38 : decode cX5_afterDays 38 = .ok (.invokevirtual 186, 3) := by decide +kernel
theorem dX5_afterDays_41 : decode cX5_afterDays 41 = .ok (.aload_n 1, 1) := by decide +kernel
theorem dX5_afterDays_42 : decode cX5_afterDays 42 = .ok (.iload 7, 2) := by decide +kernel
theorem dX5_afterDays_44 : decode cX5_afterDays 44 = .ok (.iconst 1, 1) := by decide +kernel
theorem dX5_afterDays_45 : decode cX5_afterDays 45 = .ok (.iadd, 1) := by decide +kernel
theorem dX5_afterDays_46 : decode cX5_afterDays 46 = .ok (.invokevirtual 186, 3) := by decide +kernel
theorem dX5_afterDays_49 : decode cX5_afterDays 49 = .ok (.invokevirtual 242, 3) := by decide +kernel
theorem dX5_afterDays_52 : decode cX5_afterDays 52 = .ok (.ifCond .ne 20, 3) := by decide +kernel
theorem dX5_afterDays_55 : decode cX5_afterDays 55 = .ok (.iload 4, 2) := by decide +kernel
theorem dX5_afterDays_57 : decode cX5_afterDays 57 = .ok (.iconst 1, 1) := by decide +kernel
theorem dX5_afterDays_58 : decode cX5_afterDays 58 = .ok (.if_icmp .ne 8, 3) := by decide +kernel
theorem dX5_afterDays_61 : decode cX5_afterDays 61 = .ok (.iload 6, 2) := by decide +kernel
theorem dX5_afterDays_63 : decode cX5_afterDays 63 = .ok (.goto 8, 3) := by decide +kernel
theorem dX5_afterDays_66 : decode cX5_afterDays 66 = .ok (.bipush (-100), 2) := by decide +kernel
theorem dX5_afterDays_68 : decode cX5_afterDays 68 = .ok (.iload 6, 2) := by decide +kernel
theorem dX5_afterDays_70 : decode cX5_afterDays 70 = .ok (.isub, 1) := by decide +kernel
theorem dX5_afterDays_71 : decode cX5_afterDays 71 = .ok (.ireturn, 1) := by decide +kernel
theorem dX5_afterDays_72 : decode cX5_afterDays 72 = .ok (.aload_n 0, 1) := by decide +kernel
theorem dX5_afterDays_73 : decode cX5_afterDays 73 = .ok (.getfield 18, 3) := by decide +kernel
theorem dX5_afterDays_76 : decode cX5_afterDays 76 = .ok (.aload_n 0, 1) := by decide +kernel
theorem dX5_afterDays_77 : decode cX5_afterDays 77 = .ok (.getfield 18, 3) := by decide +kernel
theorem dX5_afterDays_80 : decode cX5_afterDays 80 = .ok (.invokevirtual 96, 3) := by decide +kernel
theorem dX5_afterDays_83 : decode cX5_afterDays 83 = .ok (.invokevirtual 102, 3) := by decide +kernel
theorem dX5_afterDays_86 : decode cX5_afterDays 86 = .ok (.ifCond .le 6, 3) := by decide +kernel
theorem dX5_afterDays_89 : decode cX5_afterDays 89 = .ok (.iinc 5 1, 3) := by decide +kernel
theorem dX5_afterDays_92 : decode cX5_afterDays 92 = .ok (.iinc 6 1, 3) := by decide +kernel
theorem dX5_afterDays_95 : decode cX5_afterDays 95 = .ok (.goto (-78), 3) := by decide +kernel
theorem dX5_afterDays_98 : decode cX5_afterDays 98 = .ok (.iload 4, 2) := by decide +kernel
theorem dX5_afterDays_100 : decode cX5_afterDays 100 = .ok (.tableswitch 80 0 4 #[36, 80, 44, 59, 77], 36) := by decide +kernel
theorem dX5_afterDays_136 : decode cX5_afterDays 136 = .ok (.aload_n 0, 1) := by decide +kernel
theorem dX5_afterDays_137 : decode cX5_afterDays 137 = .ok (.getfield 18, 3) := by decide +kernel
theorem dX5_afterDays_140 : decode cX5_afterDays 140 = .ok (.getfield 76, 3) := by decide +kernel
theorem dX5_afterDays_143 : decode cX5_afterDays 143 = .ok (.ireturn, 1) := by decide +kernel
theorem dX5_afterDays_144 : decode cX5_afterDays 144 = .ok (.aload_n 0, 1) := by decide +kernel
theorem dX5_afterDays_145 : decode cX5_afterDays 145 = .ok (.getfield 18, 3) := by decide +kernel
theorem dX5_afterDays_148 : decode cX5_afterDays 148 = .ok (.aload_n 0, 1) := by decide +kernel
theorem dX5_afterDays_149 : decode cX5_afterDays 149 = .ok (.getfield 18, 3) := by decide +kernel
theorem dX5_afterDays_152 : decode cX5_afterDays 152 = .ok (.invokevirtual 96, 3) := by decide +kernel
theorem dX5_afterDays_155 : decode cX5_afterDays 155 = .ok (.invokevirtual 118, 3) := by decide +kernel
theorem dX5_afterDays_158 : decode cX5_afterDays 158 = .ok (.ireturn, 1) := by decide +kernel
theorem dX5_afterDays_159 : decode cX5_afterDays 159 = .ok (.aload_n 0, 1) := by decide +kernel
theorem dX5_afterDays_160 : decode cX5_afterDays 160 = .ok (.getfield 18, 3) := by decide +kernel
theorem dX5_afterDays_163 : decode cX5_afterDays 163 = .ok (.aload_n 0, 1) := by decide +kernel
theorem dX5_afterDays_164 : decode cX5_afterDays 164 = .ok (.getfield 18, 3) := by decide +kernel
theorem dX5_afterDays_167 : decode cX5_afterDays 167 = .ok (.invokevirtual 96, 3) := by decide +kernel
theorem dX5_afterDays_170 : decode cX5_afterDays 170 = .ok (.invokevirtual 102, 3) := by decide +kernel
theorem dX5_afterDays_173 : decode cX5_afterDays 173 = .ok (.invokestatic 115, 3) := by decide +kernel
theorem dX5_afterDays_176 : decode cX5_afterDays 176 = .ok (.ireturn, 1) := by decide +kernel
theorem dX5_afterDays_177 : decode cX5_afterDays 177 = .ok (.iload 5, 2) := by decide +kernel
theorem dX5_afterDays_179 : decode cX5_afterDays 179 = .ok (.ireturn, 1) := by decide +kernel
theorem dX5_afterDays_180 : decode cX5_afterDays 180 = .ok (.bipush (-9), 2) := by decide +kernel
theorem dX5_afterDays_182 : decode cX5_afterDays 182 = .ok (.ireturn, 1) := by decide +kernel
set_option maxRecDepth 20000 in
theorem ggX5_fitsInOrder_X4_becomeOrdered : GoodIn wsX5_fitsInOrder wsX4_becomeOrdered := goodIn_r _ [9, 10, 11, 12, 13, 14, 15, 8, 16, 17, 18, 19, 20, 21, 22, 23, 24, 25, 26, 27, 28, 29, 30, 31, 32, 33, 34, 35, 36, 37, 38, 39, 40, 41, 42, 43, 44, 45, 46, 47, 82, 83, 84, 85, 86, 87, 88, 89, 90] (by decide +kernel) (by decide +kernel)
set_option maxRecDepth 20000 in
theorem gX5_fitsInOrder_X4_becomeOrdered : GoodIn wsX5_fitsInOrder (wsV RX5 245 RX4 yX4_becomeOrdered wsX4_becomeOrdered) := goodIn_app (goodIn_of _ (by decide +kernel)) ggX5_fitsInOrder_X4_becomeOrdered
set_option maxRecDepth 20000 in
theorem ggX5_fitsInOrder_X2_agreeWith : GoodIn wsX5_fitsInOrder wsX2_agreeWith := goodIn_r _ [52, 53, 54, 55, 56, 57, 58, 8, 59, 28, 35, 60, 61, 62, 63, 12, 33, 64, 65, 66, 43, 67, 45, 46, 68, 69, 70, 71, 72, 73, 74, 91, 92, 93, 82, 83, 84, 85, 88, 89, 90] (by decide +kernel) (by decide +kernel)
set_option maxRecDepth 20000 in
theorem gX5_fitsInOrder_X2_agreeWith : GoodIn wsX5_fitsInOrder (wsV RX5 249 RX2 yX2_agreeWith wsX2_agreeWith) := goodIn_app (goodIn_of _ (by decide +kernel)) ggX5_fitsInOrder_X2_agreeWith
theorem dX5_fitsInOrder_0 : decode cX5_fitsInOrder 0 = .ok (.aload_n 0, 1) := by decide +kernel
theorem dX5_fitsInOrder_1 : decode cX5_fitsInOrder 1 = .ok (.getfield 18, 3) := by decide +kernel
theorem dX5_fitsInOrder_4 : decode cX5_fitsInOrder 4 = .ok (.aload_n 0, 1) := by decide +kernel
theorem dX5_fitsInOrder_5 : decode cX5_fitsInOrder 5 = .ok (.getfield 12, 3) := by decide +kernel
theorem dX5_fitsInOrder_8 : decode cX5_fitsInOrder 8 = .ok (.aload_n 0, 1) := by decide +kernel
theorem dX5_fitsInOrder_9 : decode cX5_fitsInOrder 9 = .ok (.getfield 31, 3) := by decide +kernel
theorem dX5_fitsInOrder_12 : decode cX5_fitsInOrder 12 = .ok (.invokevirtual 245, 3) := by decide +kernel
theorem dX5_fitsInOrder_15 : decode cX5_fitsInOrder 15 = .ok (.aload_n 0, 1) := by decide +kernel
theorem dX5_fitsInOrder_16 : decode cX5_fitsInOrder 16 = .ok (.getfield 24, 3) := by decide +kernel
theorem dX5_fitsInOrder_19 : decode cX5_fitsInOrder 19 = .ok (.aload_n 0, 1) := by decide +kernel
theorem dX5_fitsInOrder_20 : decode cX5_fitsInOrder 20 = .ok (.getfield 18, 3) := by decide +kernel
theorem dX5_fitsInOrder_23 : decode cX5_fitsInOrder 23 = .ok (.invokevirtual 249, 3) := by decide +kernel
theorem dX5_fitsInOrder_26 : decode cX5_fitsInOrder 26 = .ok (.ireturn, 1) := by decide +kernel
set_option maxRecDepth 20000 in
theorem ggX5_countOrders_X1_begin : GoodIn wsX5_countOrders wsX1_begin := goodIn_r _ [8, 9, 10, 11, 12, 13, 14, 15, 16, 17, 119, 120] (by decide +kernel) (by decide +kernel)
set_option maxRecDepth 20000 in
theorem gX5_countOrders_X1_begin : GoodIn wsX5_countOrders (wsV RX5 253 RX1 yX1_begin wsX1_begin) := goodIn_app (goodIn_of _ (by decide +kernel)) ggX5_countOrders_X1_begin
set_option maxRecDepth 20000 in
theorem ggX5_countOrders_X5_fitsInOrder : GoodIn wsX5_countOrders wsX5_fitsInOrder := goodIn_r _ [22, 23, 2, 1, 24, 25, 26, 27, 28, 29, 30, 31, 32, 33, 34, 35, 36, 37, 38, 39, 7, 40, 16, 17, 41, 42, 43, 44, 45, 46, 47, 48, 49, 50, 51, 52, 53, 54, 55, 56, 57, 58, 59, 60, 61, 62, 63, 64, 65, 66, 67, 68, 69, 70, 71, 72, 73, 74, 75, 76, 77, 78, 79, 80, 81, 82, 83, 84, 85, 86, 87, 88, 89, 90, 91, 108, 109, 110, 111, 112, 113, 114, 115, 116, 117, 118, 119, 120, 121, 122, 123, 124, 125, 126] (by decide +kernel) (by decide +kernel)
set_option maxRecDepth 20000 in
theorem gX5_countOrders_X5_fitsInOrder : GoodIn wsX5_countOrders (wsV RX5 256 RX5 yX5_fitsInOrder wsX5_fitsInOrder) := goodIn_app (goodIn_of _ (by decide +kernel)) ggX5_countOrders_X5_fitsInOrder
set_option maxRecDepth 20000 in
theorem ggX5_countOrders_X1_next : GoodIn wsX5_countOrders wsX1_next := goodIn_r _ [95, 16, 17, 96, 97, 98, 7, 99, 100, 101, 102, 103, 104, 105, 106, 107, 119, 120] (by decide +kernel) (by decide +kernel)
set_option maxRecDepth 20000 in
theorem gX5_countOrders_X1_next : GoodIn wsX5_countOrders (wsV RX5 259 RX1 yX1_next wsX1_next) := goodIn_app (goodIn_of _ (by decide +kernel)) ggX5_countOrders_X1_next
theorem dX5_countOrders_0 : decode cX5_countOrders 0 = .ok (.iconst 0, 1) := by decide +kernel
theorem dX5_countOrders_1 : decode cX5_countOrders 1 = .ok (.istore_n 1, 1) := by decide +kernel
theorem dX5_countOrders_2 : decode cX5_countOrders 2 = .ok (.aload_n 0, 1) := by decide +kernel
theorem dX5_countOrders_3 : decode cX5_countOrders 3 = .ok (.getfield 31, 3) := by decide +kernel
theorem dX5_countOrders_6 : decode cX5_countOrders 6 = .ok (.aload_n 0, 1) := by decide +kernel
theorem dX5_countOrders_7 : decode cX5_countOrders 7 = .ok (.getfield 12, 3) := by decide +kernel
theorem dX5_countOrders_10 : decode cX5_countOrders 10 = .ok (.getfield 76, 3) := by decide +kernel
theorem dX5_countOrders_13 : decode cX5_countOrders 13 = .ok (.invokevirtual 253, 3) := by decide +kernel
theorem dX5_countOrders_16 : decode cX5_countOrders 16 = .ok (.iconst 0, 1) := by decide +kernel
theorem dX5_countOrders_17 : decode cX5_countOrders 17 = .ok (.istore_n 2, 1) := by decide +kernel
theorem dX5_countOrders_18 : decode cX5_countOrders 18 = .ok (.iload_n 2, 1) := by decide +kernel
theorem dX5_countOrders_19 : decode cX5_countOrders 19 = .ok (.sipush 720, 3) := by decide +kernel
theorem dX5_countOrders_22 : decode cX5_countOrders 22 = .ok (.if_icmp .ge 31, 3) := by decide +kernel
theorem dX5_countOrders_25 : decode cX5_countOrders 25 = .ok (.aload_n 0, 1) := by decide +kernel
theorem dX5_countOrders_26 : decode cX5_countOrders 26 = .ok (.invokevirtual 256, 3) := by decide +kernel
theorem dX5_countOrders_29 : decode cX5_countOrders 29 = .ok (.ifCond .eq 6, 3) := by decide +kernel
theorem dX5_countOrders_32 : decode cX5_countOrders 32 = .ok (.iinc 1 1, 3) := by decide +kernel
theorem dX5_countOrders_35 : decode cX5_countOrders 35 = .ok (.aload_n 0, 1) := by decide +kernel
theorem dX5_countOrders_36 : decode cX5_countOrders 36 = .ok (.getfield 31, 3) := by decide +kernel
theorem dX5_countOrders_39 : decode cX5_countOrders 39 = .ok (.invokevirtual 259, 3) := by decide +kernel
theorem dX5_countOrders_42 : decode cX5_countOrders 42 = .ok (.ifCond .ne 5, 3) := by decide +kernel
theorem dX5_countOrders_45 : decode cX5_countOrders 45 = .ok (.iload_n 1, 1) := by decide +kernel
theorem dX5_countOrders_46 : decode cX5_countOrders 46 = .ok (.ireturn, 1) := by decide +kernel
theorem dX5_countOrders_47 : decode cX5_countOrders 47 = .ok (.iinc 2 1, 3) := by decide +kernel
theorem dX5_countOrders_50 : decode cX5_countOrders 50 = .ok (.goto (-32), 3) := by decide +kernel
theorem dX5_countOrders_53 : decode cX5_countOrders 53 = .ok (.iload_n 1, 1) := by decide +kernel
theorem dX5_countOrders_54 : decode cX5_countOrders 54 = .ok (.ireturn, 1) := by decide +kernel
set_option maxRecDepth 20000 in
theorem ggX5_findOrder_X1_begin : GoodIn wsX5_findOrder wsX1_begin := goodIn_r _ [8, 9, 10, 11, 12, 13, 14, 15, 16, 17, 119, 120] (by decide +kernel) (by decide +kernel)
set_option maxRecDepth 20000 in
theorem gX5_findOrder_X1_begin : GoodIn wsX5_findOrder (wsV RX5 253 RX1 yX1_begin wsX1_begin) := goodIn_app (goodIn_of _ (by decide +kernel)) ggX5_findOrder_X1_begin
set_option maxRecDepth 20000 in
theorem ggX5_findOrder_X5_fitsInOrder : GoodIn wsX5_findOrder wsX5_fitsInOrder := goodIn_r _ [22, 23, 2, 1, 24, 25, 26, 27, 28, 29, 30, 31, 32, 33, 34, 35, 36, 37, 38, 39, 7, 40, 16, 17, 41, 42, 43, 44, 45, 46, 47, 48, 49, 50, 51, 52, 53, 54, 55, 56, 57, 58, 59, 60, 61, 62, 63, 64, 65, 66, 67, 68, 69, 70, 71, 72, 73, 74, 75, 76, 77, 78, 79, 80, 81, 82, 83, 84, 85, 86, 87, 88, 89, 90, 91, 108, 109, 110, 111, 112, 113, 114, 115, 116, 117, 118, 119, 120, 121, 122, 123, 124, 125, 126] (by decide +kernel) (by decide +kernel)
set_option maxRecDepth 20000 in
theorem gX5_findOrder_X5_fitsInOrder : GoodIn wsX5_findOrder (wsV RX5 256 RX5 yX5_fitsInOrder wsX5_fitsInOrder) := goodIn_app (goodIn_of _ (by decide +kernel)) ggX5_findOrder_X5_fitsInOrder
set_option maxRecDepth 20000 in
theorem ggX5_findOrder_X1_next : GoodIn wsX5_findOrder wsX1_next := goodIn_r _ [95, 16, 17, 96, 97, 98, 7, 99, 100, 101, 102, 103, 104, 105, 106, 107, 119, 120] (by decide +kernel) (by decide +kernel)
set_option maxRecDepth 20000 in
theorem gX5_findOrder_X1_next : GoodIn wsX5_findOrder (wsV RX5 259 RX1 yX1_next wsX1_next) := goodIn_app (goodIn_of _ (by decide +kernel)) ggX5_findOrder_X1_next
theorem dX5_findOrder_0 : decode cX5_findOrder 0 = .ok (.aload_n 0, 1) := by decide +kernel
theorem dX5_findOrder_1 : decode cX5_findOrder 1 = .ok (.getfield 31, 3) := by decide +kernel
theorem dX5_findOrder_4 : decode cX5_findOrder 4 = .ok (.aload_n 0, 1) := by decide +kernel
theorem dX5_findOrder_5 : decode cX5_findOrder 5 = .ok (.getfield 12, 3) := by decide +kernel
theorem dX5_findOrder_8 : decode cX5_findOrder 8 = .ok (.getfield 76, 3) := by decide +kernel
theorem dX5_findOrder_11 : decode cX5_findOrder 11 = .ok (.invokevirtual 253, 3) := by decide +kernel
theorem dX5_findOrder_14 : decode cX5_findOrder 14 = .ok (.iconst 0, 1) := by decide +kernel
theorem dX5_findOrder_15 : decode cX5_findOrder 15 = .ok (.istore_n 1, 1) := by decide +kernel
theorem dX5_findOrder_16 : decode cX5_findOrder 16 = .ok (.iload_n 1, 1) := by decide +kernel
theorem dX5_findOrder_17 : decode cX5_findOrder 17 = .ok (.sipush 720, 3) := by decide +kernel
theorem dX5_findOrder_20 : decode cX5_findOrder 20 = .ok (.if_icmp .ge 30, 3) := by decide +kernel
theorem dX5_findOrder_23 : decode cX5_findOrder 23 = .ok (.aload_n 0, 1) := by decide +kernel
theorem dX5_findOrder_24 : decode cX5_findOrder 24 = .ok (.invokevirtual 256, 3) := by decide +kernel
theorem dX5_findOrder_27 : decode cX5_findOrder 27 = .ok (.ifCond .eq 5, 3) := by decide +kernel
theorem dX5_findOrder_30 : decode cX5_findOrder 30 = .ok (.iconst 1, 1) := by decide +kernel
theorem dX5_findOrder_31 : decode cX5_findOrder 31 = .ok (.ireturn, 1) := by decide +kernel
theorem dX5_findOrder_32 : decode cX5_findOrder 32 = .ok (.aload_n 0, 1) := by decide +kernel
theorem dX5_findOrder_33 : decode cX5_findOrder 33 = .ok (.getfield 31, 3) := by decide +kernel
theorem dX5_findOrder_36 : decode cX5_findOrder 36 = .ok (.invokevirtual 259, 3) := by decide +kernel
theorem dX5_findOrder_39 : decode cX5_findOrder 39 = .ok (.ifCond .ne 5, 3) := by decide +kernel
theorem dX5_findOrder_42 : decode cX5_findOrder 42 = .ok (.iconst 0, 1) := by decide +kernel
theorem dX5_findOrder_43 : decode cX5_findOrder 43 = .ok (.ireturn, 1) := by decide +kernel
theorem dX5_findOrder_44 : decode cX5_findOrder 44 = .ok (.iinc 1 1, 3) := by decide +kernel
theorem dX5_findOrder_47 : decode cX5_findOrder 47 = .ok (.goto (-31), 3) := by decide +kernel
theorem dX5_findOrder_50 : decode cX5_findOrder 50 = .ok (.iconst 0, 1) := by decide +kernel
theorem dX5_findOrder_51 : decode cX5_findOrder 51 = .ok (.ireturn, 1) := by decide +kernel
set_option maxRecDepth 20000 in
theorem ggX5_fitting_X4_become : GoodIn wsX5_fitting wsX4_become := goodIn_r _ [8, 9, 10, 11, 7, 12, 13, 14, 15, 16, 17, 18, 19, 20, 21, 22, 23, 24, 25, 26, 27, 28, 29, 30, 31, 32, 33, 34, 35, 36, 37, 38, 39, 40, 41, 42, 43, 82, 83, 84, 85, 86, 87, 88] (by decide +kernel) (by decide +kernel)
set_option maxRecDepth 20000 in
theorem gX5_fitting_X4_become : GoodIn wsX5_fitting (wsV RX5 238 RX4 yX4_become wsX4_become) := goodIn_app (goodIn_of _ (by decide +kernel)) ggX5_fitting_X4_become
set_option maxRecDepth 20000 in
theorem ggX5_fitting_X4_change : GoodIn wsX5_fitting wsX4_change := goodIn_r _ [47, 29, 30, 31, 20, 21, 22, 7, 23, 15, 24, 86, 87, 88, 82, 83, 84, 85] (by decide +kernel) (by decide +kernel)
set_option maxRecDepth 20000 in
theorem gX5_fitting_X4_change : GoodIn wsX5_fitting (wsV RX5 262 RX4 yX4_change wsX4_change) := goodIn_app (goodIn_of _ (by decide +kernel)) ggX5_fitting_X4_change
set_option maxRecDepth 20000 in
theorem ggX5_fitting_X2_agreeWith : GoodIn wsX5_fitting wsX2_agreeWith := goodIn_r _ [52, 53, 54, 55, 56, 57, 58, 7, 59, 24, 31, 60, 61, 62, 63, 15, 29, 64, 65, 66, 39, 67, 41, 42, 68, 69, 70, 71, 72, 73, 74, 89, 90, 91, 82, 83, 84, 85, 86, 87, 88] (by decide +kernel) (by decide +kernel)
set_option maxRecDepth 20000 in
theorem gX5_fitting_X2_agreeWith : GoodIn wsX5_fitting (wsV RX5 249 RX2 yX2_agreeWith wsX2_agreeWith) := goodIn_app (goodIn_of _ (by decide +kernel)) ggX5_fitting_X2_agreeWith
theorem dX5_fitting_0 : decode cX5_fitting 0 = .ok (.iconst 0, 1) := by decide +kernel
theorem dX5_fitting_1 : decode cX5_fitting 1 = .ok (.istore 4, 2) := by decide +kernel
theorem dX5_fitting_3 : decode cX5_fitting 3 = .ok (.iconst 0, 1) := by decide +kernel
theorem dX5_fitting_4 : decode cX5_fitting 4 = .ok (.istore 5, 2) := by decide +kernel
theorem dX5_fitting_6 : decode cX5_fitting 6 = .ok (.iload 5, 2) := by decide +kernel
theorem dX5_fitting_8 : decode cX5_fitting 8 = .ok (.iload_n 3, 1) := by decide +kernel
theorem dX5_fitting_9 : decode cX5_fitting 9 = .ok (.if_icmp .gt 54, 3) := by decide +kernel
theorem dX5_fitting_12 : decode cX5_fitting 12 = .ok (.aload_n 0, 1) := by decide +kernel
theorem dX5_fitting_13 : decode cX5_fitting 13 = .ok (.getfield 18, 3) := by decide +kernel
theorem dX5_fitting_16 : decode cX5_fitting 16 = .ok (.aload_n 0, 1) := by decide +kernel
theorem dX5_fitting_17 : decode cX5_fitting 17 = .ok (.getfield 12, 3) := by decide +kernel
theorem dX5_fitting_20 : decode cX5_fitting 20 = .ok (.invokevirtual 238, 3) := by decide +kernel
theorem dX5_fitting_23 : decode cX5_fitting 23 = .ok (.aload_n 0, 1) := by decide +kernel
theorem dX5_fitting_24 : decode cX5_fitting 24 = .ok (.getfield 18, 3) := by decide +kernel
theorem dX5_fitting_27 : decode cX5_fitting 27 = .ok (.iload_n 1, 1) := by decide +kernel
theorem dX5_fitting_28 : decode cX5_fitting 28 = .ok (.iload_n 2, 1) := by decide +kernel
theorem dX5_fitting_29 : decode cX5_fitting 29 = .ok (.iload 5, 2) := by decide +kernel
theorem dX5_fitting_31 : decode cX5_fitting 31 = .ok (.invokevirtual 262, 3) := by decide +kernel
theorem dX5_fitting_34 : decode cX5_fitting 34 = .ok (.aload_n 0, 1) := by decide +kernel
theorem dX5_fitting_35 : decode cX5_fitting 35 = .ok (.getfield 24, 3) := by decide +kernel
theorem dX5_fitting_38 : decode cX5_fitting 38 = .ok (.aload_n 0, 1) := by decide +kernel
theorem dX5_fitting_39 : decode cX5_fitting 39 = .ok (.getfield 18, 3) := by decide +kernel
theorem dX5_fitting_42 : decode cX5_fitting 42 = .ok (.invokevirtual 249, 3) := by decide +kernel
theorem dX5_fitting_45 : decode cX5_fitting 45 = .ok (.ifCond .eq 12, 3) := by decide +kernel
theorem dX5_fitting_48 : decode cX5_fitting 48 = .ok (.iload 4, 2) := by decide +kernel
theorem dX5_fitting_50 : decode cX5_fitting 50 = .ok (.iconst 1, 1) := by decide +kernel
theorem dX5_fitting_51 : decode cX5_fitting 51 = .ok (.iload 5, 2) := by decide +kernel
theorem dX5_fitting_53 : decode cX5_fitting 53 = .ok (.ishl, 1) := by decide +kernel
theorem dX5_fitting_54 : decode cX5_fitting 54 = .ok (.ior, 1) := by decide +kernel
theorem dX5_fitting_55 : decode cX5_fitting 55 = .ok (.istore 4, 2) := by decide +kernel
theorem dX5_fitting_57 : decode cX5_fitting 57 = .ok (.iinc 5 1, 3) := by decide +kernel
theorem dX5_fitting_60 : decode cX5_fitting 60 = .ok (.goto (-54), 3) := by decide +kernel
theorem dX5_fitting_63 : decode cX5_fitting 63 = .ok (.iload 4, 2) := by decide +kernel
theorem dX5_fitting_65 : decode cX5_fitting 65 = .ok (.ireturn, 1) := by decide +kernel
