theorem dX0_init_0 : decode cX0_init 0 = .ok (.aload_n 0, 1) := by decide +kernel
theorem dX0_init_1 : decode cX0_init 1 = .ok (.invokespecial 3, 3) := by decide +kernel
theorem dX0_init_4 : decode cX0_init 4 = .ok (.return_, 1) := by decide +kernel
theorem dX0_become_0 : decode cX0_become 0 = .ok (.aload_n 0, 1) := by decide +kernel
theorem dX0_become_1 : decode cX0_become 1 = .ok (.iload_n 1, 1) := by decide +kernel
theorem dX0_become_2 : decode cX0_become 2 = .ok (.putfield 9, 3) := by decide +kernel
theorem dX0_become_5 : decode cX0_become 5 = .ok (.aload_n 0, 1) := by decide +kernel
theorem dX0_become_6 : decode cX0_become 6 = .ok (.iload_n 2, 1) := by decide +kernel
theorem dX0_become_7 : decode cX0_become 7 = .ok (.putfield 15, 3) := by decide +kernel
theorem dX0_become_10 : decode cX0_become 10 = .ok (.aload_n 0, 1) := by decide +kernel
theorem dX0_become_11 : decode cX0_become 11 = .ok (.iload_n 3, 1) := by decide +kernel
theorem dX0_become_12 : decode cX0_become 12 = .ok (.putfield 18, 3) := by decide +kernel
theorem dX0_become_15 : decode cX0_become 15 = .ok (.return_, 1) := by decide +kernel
set_option maxRecDepth 20000 in
theorem ggX0_becomeLike_X0_become : GoodIn wsX0_becomeLike wsX0_become := goodIn_r _ [8, 1, 2, 3, 9, 10, 11] (by decide +kernel) (by decide +kernel)
set_option maxRecDepth 20000 in
theorem gX0_becomeLike_X0_become : GoodIn wsX0_becomeLike (wsV RX0 21 RX0 yX0_become wsX0_become) := goodIn_app (goodIn_of _ (by decide +kernel)) ggX0_becomeLike_X0_become
theorem dX0_becomeLike_0 : decode cX0_becomeLike 0 = .ok (.aload_n 0, 1) := by decide +kernel
theorem dX0_becomeLike_1 : decode cX0_becomeLike 1 = .ok (.aload_n 1, 1) := by decide +kernel
theorem dX0_becomeLike_2 : decode cX0_becomeLike 2 = .ok (.getfield 9, 3) := by decide +kernel
theorem dX0_becomeLike_5 : decode cX0_becomeLike 5 = .ok (.aload_n 1, 1) := by decide +kernel
theorem dX0_becomeLike_6 : decode cX0_becomeLike 6 = .ok (.getfield 15, 3) := by decide +kernel
theorem dX0_becomeLike_9 : decode cX0_becomeLike 9 = .ok (.aload_n 1, 1) := by decide +kernel
theorem dX0_becomeLike_10 : decode cX0_becomeLike 10 = .ok (.getfield 18, 3) := by decide +kernel
theorem dX0_becomeLike_13 : decode cX0_becomeLike 13 = .ok (.invokevirtual 21, 3) := by decide +kernel
theorem dX0_becomeLike_16 : decode cX0_becomeLike 16 = .ok (.return_, 1) := by decide +kernel
theorem dX0_grip_0 : decode cX0_grip 0 = .ok (.aload_n 0, 1) := by decide +kernel
theorem dX0_grip_1 : decode cX0_grip 1 = .ok (.getfield 9, 3) := by decide +kernel
theorem dX0_grip_4 : decode cX0_grip 4 = .ok (.lookupswitch 42 #[(1, 35), (2, 28)], 28) := by decide +kernel
theorem dX0_grip_32 : decode cX0_grip 32 = .ok (.iconst 2, 1) := by decide +kernel
theorem dX0_grip_33 : decode cX0_grip 33 = .ok (.aload_n 0, 1) := by decide +kernel
theorem dX0_grip_34 : decode cX0_grip 34 = .ok (.getfield 15, 3) := by decide +kernel
theorem dX0_grip_37 : decode cX0_grip 37 = .ok (.imul, 1) := by decide +kernel
theorem dX0_grip_38 : decode cX0_grip 38 = .ok (.ireturn, 1) := by decide +kernel
theorem dX0_grip_39 : decode cX0_grip 39 = .ok (.aload_n 0, 1) := by decide +kernel
theorem dX0_grip_40 : decode cX0_grip 40 = .ok (.getfield 15, 3) := by decide +kernel
theorem dX0_grip_43 : decode cX0_grip 43 = .ok (.iconst 1, 1) := by decide +kernel
theorem dX0_grip_44 : decode cX0_grip 44 = .ok (.iadd, 1) := by decide +kernel
theorem dX0_grip_45 : decode cX0_grip 45 = .ok (.ireturn, 1) := by decide +kernel
theorem dX0_grip_46 : decode cX0_grip 46 = .ok (.aload_n 0, 1) := by decide +kernel
theorem dX0_grip_47 : decode cX0_grip 47 = .ok (.getfield 15, 3) := by decide +kernel
theorem dX0_grip_50 : decode cX0_grip 50 = .ok (.ireturn, 1) := by decide +kernel
theorem dX0_isA_0 : decode cX0_isA 0 = .ok (.aload_n 0, 1) := by decide +kernel
theorem dX0_isA_1 : decode cX0_isA 1 = .ok (.getfield 9, 3) := by decide +kernel
theorem dX0_isA_4 : decode cX0_isA 4 = .ok (.iload_n 1, 1) := by decide +kernel
theorem dX0_isA_5 : decode cX0_isA 5 = .ok (.if_icmp .lt 7, 3) := by decide +kernel
theorem dX0_isA_8 : decode cX0_isA 8 = .ok (.iconst 1, 1) := by decide +kernel
theorem dX0_isA_9 : decode cX0_isA 9 = .ok (.goto 4, 3) := by decide +kernel
theorem dX0_isA_12 : decode cX0_isA 12 = .ok (.iconst 0, 1) := by decide +kernel
theorem dX0_isA_13 : decode cX0_isA 13 = .ok (.ireturn, 1) := by decide +kernel
theorem dX1_init_0 : decode cX1_init 0 = .ok (.aload_n 0, 1) := by decide +kernel
theorem dX1_init_1 : decode cX1_init 1 = .ok (.invokespecial 3, 3) := by decide +kernel
theorem dX1_init_4 : decode cX1_init 4 = .ok (.aload_n 0, 1) := by decide +kernel
theorem dX1_init_5 : decode cX1_init 5 = .ok (.bipush 6, 2) := by decide +kernel
theorem dX1_init_7 : decode cX1_init 7 = .ok (.newarray .int, 2) := by decide +kernel
theorem dX1_init_9 : decode cX1_init 9 = .ok (.putfield 9, 3) := by decide +kernel
theorem dX1_init_12 : decode cX1_init 12 = .ok (.return_, 1) := by decide +kernel
theorem dX1_begin_0 : decode cX1_begin 0 = .ok (.aload_n 0, 1) := by decide +kernel
theorem dX1_begin_1 : decode cX1_begin 1 = .ok (.iload_n 1, 1) := by decide +kernel
theorem dX1_begin_2 : decode cX1_begin 2 = .ok (.iconst 0, 1) := by decide +kernel
theorem dX1_begin_3 : decode cX1_begin 3 = .ok (.invokestatic 15, 3) := by decide +kernel
theorem dX1_begin_6 : decode cX1_begin 6 = .ok (.bipush 6, 2) := by decide +kernel
theorem dX1_begin_8 : decode cX1_begin 8 = .ok (.invokestatic 21, 3) := by decide +kernel
theorem dX1_begin_11 : decode cX1_begin 11 = .ok (.putfield 24, 3) := by decide +kernel
theorem dX1_begin_14 : decode cX1_begin 14 = .ok (.iconst 0, 1) := by decide +kernel
theorem dX1_begin_15 : decode cX1_begin 15 = .ok (.istore_n 2, 1) := by decide +kernel
theorem dX1_begin_16 : decode cX1_begin 16 = .ok (.iload_n 2, 1) := by decide +kernel
theorem dX1_begin_17 : decode cX1_begin 17 = .ok (.aload_n 0, 1) := by decide +kernel
theorem dX1_begin_18 : decode cX1_begin 18 = .ok (.getfield 24, 3) := by decide +kernel
theorem dX1_begin_21 : decode cX1_begin 21 = .ok (.if_icmp .ge 16, 3) := by decide +kernel
theorem dX1_begin_24 : decode cX1_begin 24 = .ok (.aload_n 0, 1) := by decide +kernel
theorem dX1_begin_25 : decode cX1_begin 25 = .ok (.getfield 9, 3) := by decide +kernel
theorem dX1_begin_28 : decode cX1_begin 28 = .ok (.iload_n 2, 1) := by decide +kernel
theorem dX1_begin_29 : decode cX1_begin 29 = .ok (.iload_n 2, 1) := by decide +kernel
theorem dX1_begin_30 : decode cX1_begin 30 = .ok (.iastore, 1) := by decide +kernel
theorem dX1_begin_31 : decode cX1_begin 31 = .ok (.iinc 2 1, 3) := by decide +kernel
theorem dX1_begin_34 : decode cX1_begin 34 = .ok (.goto (-18), 3) := by decide +kernel
theorem dX1_begin_37 : decode cX1_begin 37 = .ok (.return_, 1) := by decide +kernel
theorem dX1_layerIn_0 : decode cX1_layerIn 0 = .ok (.iload_n 1, 1) := by decide +kernel
theorem dX1_layerIn_1 : decode cX1_layerIn 1 = .ok (.ifCond .lt 20, 3) := by decide +kernel
theorem dX1_layerIn_4 : decode cX1_layerIn 4 = .ok (.iload_n 1, 1) := by decide +kernel
theorem dX1_layerIn_5 : decode cX1_layerIn 5 = .ok (.aload_n 0, 1) := by decide +kernel
theorem dX1_layerIn_6 : decode cX1_layerIn 6 = .ok (.getfield 24, 3) := by decide +kernel
theorem dX1_layerIn_9 : decode cX1_layerIn 9 = .ok (.if_icmp .ge 12, 3) := by decide +kernel
theorem dX1_layerIn_12 : decode cX1_layerIn 12 = .ok (.aload_n 0, 1) := by decide +kernel
theorem dX1_layerIn_13 : decode cX1_layerIn 13 = .ok (.getfield 9, 3) := by decide +kernel
theorem dX1_layerIn_16 : decode cX1_layerIn 16 = .ok (.iload_n 1, 1) := by decide +kernel
theorem dX1_layerIn_17 : decode cX1_layerIn 17 = .ok (.iaload, 1) := by decide +kernel
theorem dX1_layerIn_18 : decode cX1_layerIn 18 = .ok (.goto 5, 3) := by decide +kernel
theorem dX1_layerIn_21 : decode cX1_layerIn 21 = .ok (.bipush (-9), 2) := by decide +kernel
theorem dX1_layerIn_23 : decode cX1_layerIn 23 = .ok (.ireturn, 1) := by decide +kernel
set_option maxRecDepth 20000 in
theorem ggX1_next_X1_placeOfNextGreater : GoodIn wsX1_next wsX1_placeOfNextGreater := goodIn_r _ [7, 1, 2, 16, 17] (by decide +kernel) (by decide +kernel)
set_option maxRecDepth 20000 in
theorem gX1_next_X1_placeOfNextGreater : GoodIn wsX1_next (wsV RX1 28 RX1 yX1_placeOfNextGreater wsX1_placeOfNextGreater) := goodIn_app (goodIn_of _ (by decide +kernel)) ggX1_next_X1_placeOfNextGreater
set_option maxRecDepth 20000 in
theorem ggX1_next_X1_swap : GoodIn wsX1_next wsX1_swap := goodIn_r _ [11, 2, 16, 17] (by decide +kernel) (by decide +kernel)
set_option maxRecDepth 20000 in
theorem gX1_next_X1_swap : GoodIn wsX1_next (wsV RX1 32 RX1 yX1_swap wsX1_swap) := goodIn_app (goodIn_of _ (by decide +kernel)) ggX1_next_X1_swap
set_option maxRecDepth 20000 in
theorem ggX1_next_X1_reverseFrom : GoodIn wsX1_next wsX1_reverseFrom := goodIn_r _ [15, 1, 8, 9, 10, 6, 11, 2, 16, 17] (by decide +kernel) (by decide +kernel)
set_option maxRecDepth 20000 in
theorem gX1_next_X1_reverseFrom : GoodIn wsX1_next (wsV RX1 36 RX1 yX1_reverseFrom wsX1_reverseFrom) := goodIn_app (goodIn_of _ (by decide +kernel)) ggX1_next_X1_reverseFrom
theorem dX1_next_0 : decode cX1_next 0 = .ok (.aload_n 0, 1) := by decide +kernel
theorem dX1_next_1 : decode cX1_next 1 = .ok (.getfield 24, 3) := by decide +kernel
theorem dX1_next_4 : decode cX1_next 4 = .ok (.iconst 2, 1) := by decide +kernel
theorem dX1_next_5 : decode cX1_next 5 = .ok (.isub, 1) := by decide +kernel
theorem dX1_next_6 : decode cX1_next 6 = .ok (.istore_n 1, 1) := by decide +kernel
theorem dX1_next_7 : decode cX1_next 7 = .ok (.iload_n 1, 1) := by decide +kernel
theorem dX1_next_8 : decode cX1_next 8 = .ok (.ifCond .lt 45, 3) := by decide +kernel
theorem dX1_next_11 : decode cX1_next 11 = .ok (.aload_n 0, 1) := by decide +kernel
theorem dX1_next_12 : decode cX1_next 12 = .ok (.getfield 9, 3) := by decide +kernel
theorem dX1_next_15 : decode cX1_next 15 = .ok (.iload_n 1, 1) := by decide +kernel
theorem dX1_next_16 : decode cX1_next 16 = .ok (.iaload, 1) := by decide +kernel
theorem dX1_next_17 : decode cX1_next 17 = .ok (.aload_n 0, 1) := by decide +kernel
theorem dX1_next_18 : decode cX1_next 18 = .ok (.getfield 9, 3) := by decide +kernel
theorem dX1_next_21 : decode cX1_next 21 = .ok (.iload_n 1, 1) := by decide +kernel
theorem dX1_next_22 : decode cX1_next 22 = .ok (.iconst 1, 1) := by decide +kernel
theorem dX1_next_23 : decode cX1_next 23 = .ok (.iadd, 1) := by decide +kernel
theorem dX1_next_24 : decode cX1_next 24 = .ok (.iaload, 1) := by decide +kernel
theorem dX1_next_25 : decode cX1_next 25 = .ok (.if_icmp .ge 22, 3) := by decide +kernel
theorem dX1_next_28 : decode cX1_next 28 = .ok (.aload_n 0, 1) := by decide +kernel
theorem dX1_next_29 : decode cX1_next 29 = .ok (.iload_n 1, 1) := by decide +kernel
theorem dX1_next_30 : decode cX1_next 30 = .ok (.aload_n 0, 1) := by decide +kernel
theorem dX1_next_31 : decode cX1_next 31 = .ok (.iload_n 1, 1) := by decide +kernel
theorem dX1_next_32 : decode cX1_next 32 = .ok (.invokevirtual 28, 3) := by decide +kernel
theorem dX1_next_35 : decode cX1_next 35 = .ok (.invokevirtual 32, 3) := by decide +kernel
theorem dX1_next_38 : decode cX1_next 38 = .ok (.aload_n 0, 1) := by decide +kernel
theorem dX1_next_39 : decode cX1_next 39 = .ok (.iload_n 1, 1) := by decide +kernel
theorem dX1_next_40 : decode cX1_next 40 = .ok (.iconst 1, 1) := by decide +kernel
theorem dX1_next_41 : decode cX1_next 41 = .ok (.iadd, 1) := by decide +kernel
theorem dX1_next_42 : decode cX1_next 42 = .ok (.invokevirtual 36, 3) := by decide +kernel
theorem dX1_next_45 : decode cX1_next 45 = .ok (.iconst 1, 1) := by decide +kernel
theorem dX1_next_46 : decode cX1_next 46 = .ok (.ireturn, 1) := by decide +kernel
theorem dX1_next_47 : decode cX1_next 47 = .ok (.iinc 1 (-1), 3) := by decide +kernel
theorem dX1_next_50 : decode cX1_next 50 = .ok (.goto (-43), 3) := by decide +kernel
theorem dX1_next_53 : decode cX1_next 53 = .ok (.iconst 0, 1) := by decide +kernel
theorem dX1_next_54 : decode cX1_next 54 = .ok (.ireturn, 1) := by decide +kernel
theorem dX1_placeOfNextGreater_0 : decode cX1_placeOfNextGreater 0 = .ok (.aload_n 0, 1) := by decide +kernel
theorem dX1_placeOfNextGreater_1 : decode cX1_placeOfNextGreater 1 = .ok (.getfield 24, 3) := by decide +kernel
theorem dX1_placeOfNextGreater_4 : decode cX1_placeOfNextGreater 4 = .ok (.iconst 1, 1) := by decide +kernel
theorem dX1_placeOfNextGreater_5 : decode cX1_placeOfNextGreater 5 = .ok (.isub, 1) := by decide +kernel
theorem dX1_placeOfNextGreater_6 : decode cX1_placeOfNextGreater 6 = .ok (.istore_n 2, 1) := by decide +kernel
theorem dX1_placeOfNextGreater_7 : decode cX1_placeOfNextGreater 7 = .ok (.iload_n 2, 1) := by decide +kernel
theorem dX1_placeOfNextGreater_8 : decode cX1_placeOfNextGreater 8 = .ok (.iload_n 1, 1) := by decide +kernel
theorem dX1_placeOfNextGreater_9 : decode cX1_placeOfNextGreater 9 = .ok (.if_icmp .le 26, 3) := by decide +kernel
theorem dX1_placeOfNextGreater_12 : decode cX1_placeOfNextGreater 12 = .ok (.aload_n 0, 1) := by decide +kernel
theorem dX1_placeOfNextGreater_13 : decode cX1_placeOfNextGreater 13 = .ok (.getfield 9, 3) := by decide +kernel
theorem dX1_placeOfNextGreater_16 : decode cX1_placeOfNextGreater 16 = .ok (.iload_n 2, 1) := by decide +kernel
theorem dX1_placeOfNextGreater_17 : decode cX1_placeOfNextGreater 17 = .ok (.iaload, 1) := by decide +kernel
theorem dX1_placeOfNextGreater_18 : decode cX1_placeOfNextGreater 18 = .ok (.aload_n 0, 1) := by decide +kernel
theorem dX1_placeOfNextGreater_19 : decode cX1_placeOfNextGreater 19 = .ok (.getfield 9, 3) := by decide +kernel
theorem dX1_placeOfNextGreater_22 : decode cX1_placeOfNextGreater 22 = .ok (.iload_n 1, 1) := by decide +kernel
theorem dX1_placeOfNextGreater_23 : decode cX1_placeOfNextGreater 23 = .ok (.iaload, 1) := by decide +kernel
theorem dX1_placeOfNextGreater_24 : decode cX1_placeOfNextGreater 24 = .ok (.if_icmp .le 5, 3) := by decide +kernel
theorem dX1_placeOfNextGreater_27 : decode cX1_placeOfNextGreater 27 = .ok (.iload_n 2, 1) := by decide +kernel
theorem dX1_placeOfNextGreater_28 : decode cX1_placeOfNextGreater 28 = .ok (.ireturn, 1) := by decide +kernel
theorem dX1_placeOfNextGreater_29 : decode cX1_placeOfNextGreater 29 = .ok (.iinc 2 (-1), 3) := by decide +kernel
theorem dX1_placeOfNextGreater_32 : decode cX1_placeOfNextGreater 32 = .ok (.goto (-25), 3) := by decide +kernel
theorem dX1_placeOfNextGreater_35 : decode cX1_placeOfNextGreater 35 = .ok (.iload_n 1, 1) := by decide +kernel
theorem dX1_placeOfNextGreater_36 : decode cX1_placeOfNextGreater 36 = .ok (.ireturn, 1) := by decide +kernel
set_option maxRecDepth 20000 in
theorem ggX1_reverseFrom_X1_swap : GoodIn wsX1_reverseFrom wsX1_swap := goodIn_r _ [6, 7, 8, 9] (by decide +kernel) (by decide +kernel)
set_option maxRecDepth 20000 in
theorem gX1_reverseFrom_X1_swap : GoodIn wsX1_reverseFrom (wsV RX1 32 RX1 yX1_swap wsX1_swap) := goodIn_app (goodIn_of _ (by decide +kernel)) ggX1_reverseFrom_X1_swap
theorem dX1_reverseFrom_0 : decode cX1_reverseFrom 0 = .ok (.aload_n 0, 1) := by decide +kernel
theorem dX1_reverseFrom_1 : decode cX1_reverseFrom 1 = .ok (.getfield 24, 3) := by decide +kernel
theorem dX1_reverseFrom_4 : decode cX1_reverseFrom 4 = .ok (.iconst 1, 1) := by decide +kernel
theorem dX1_reverseFrom_5 : decode cX1_reverseFrom 5 = .ok (.isub, 1) := by decide +kernel
theorem dX1_reverseFrom_6 : decode cX1_reverseFrom 6 = .ok (.istore_n 2, 1) := by decide +kernel
theorem dX1_reverseFrom_7 : decode cX1_reverseFrom 7 = .ok (.iload_n 1, 1) := by decide +kernel
theorem dX1_reverseFrom_8 : decode cX1_reverseFrom 8 = .ok (.istore_n 3, 1) := by decide +kernel
theorem dX1_reverseFrom_9 : decode cX1_reverseFrom 9 = .ok (.iload_n 3, 1) := by decide +kernel
theorem dX1_reverseFrom_10 : decode cX1_reverseFrom 10 = .ok (.iload_n 2, 1) := by decide +kernel
theorem dX1_reverseFrom_11 : decode cX1_reverseFrom 11 = .ok (.if_icmp .ge 18, 3) := by decide +kernel
theorem dX1_reverseFrom_14 : decode cX1_reverseFrom 14 = .ok (.aload_n 0, 1) := by decide +kernel
theorem dX1_reverseFrom_15 : decode cX1_reverseFrom 15 = .ok (.iload_n 3, 1) := by decide +kernel
theorem dX1_reverseFrom_16 : decode cX1_reverseFrom 16 = .ok (.iload_n 2, 1) := by decide +kernel
theorem dX1_reverseFrom_17 : decode cX1_reverseFrom 17 = .ok (.invokevirtual 32, 3) := by decide +kernel
theorem dX1_reverseFrom_20 : decode cX1_reverseFrom 20 = .ok (.iinc 2 (-1), 3) := by decide +kernel
theorem dX1_reverseFrom_23 : decode cX1_reverseFrom 23 = .ok (.iinc 3 1, 3) := by decide +kernel
theorem dX1_reverseFrom_26 : decode cX1_reverseFrom 26 = .ok (.goto (-17), 3) := by decide +kernel
theorem dX1_reverseFrom_29 : decode cX1_reverseFrom 29 = .ok (.return_, 1) := by decide +kernel
theorem dX1_swap_0 : decode cX1_swap 0 = .ok (.aload_n 0, 1) := by decide +kernel
theorem dX1_swap_1 : decode cX1_swap 1 = .ok (.getfield 9, 3) := by decide +kernel
theorem dX1_swap_4 : decode cX1_swap 4 = .ok (.iload_n 1, 1) := by decide +kernel
theorem dX1_swap_5 : decode cX1_swap 5 = .ok (.iaload, 1) := by decide +kernel
theorem dX1_swap_6 : decode cX1_swap 6 = .ok (.istore_n 3, 1) := by decide +kernel
theorem dX1_swap_7 : decode cX1_swap 7 = .ok (.aload_n 0, 1) := by decide +kernel
theorem dX1_swap_8 : decode cX1_swap 8 = .ok (.getfield 9, 3) := by decide +kernel
theorem dX1_swap_11 : decode cX1_swap 11 = .ok (.iload_n 1, 1) := by decide +kernel
theorem dX1_swap_12 : decode cX1_swap 12 = .ok (.aload_n 0, 1) := by decide +kernel
theorem dX1_swap_13 : decode cX1_swap 13 = .ok (.getfield 9, 3) := by decide +kernel
theorem dX1_swap_16 : decode cX1_swap 16 = .ok (.iload_n 2, 1) := by decide +kernel
theorem dX1_swap_17 : decode cX1_swap 17 = .ok (.iaload, 1) := by decide +kernel
theorem dX1_swap_18 : decode cX1_swap 18 = .ok (.iastore, 1) := by decide +kernel
theorem dX1_swap_19 : decode cX1_swap 19 = .ok (.aload_n 0, 1) := by decide +kernel
theorem dX1_swap_20 : decode cX1_swap 20 = .ok (.getfield 9, 3) := by decide +kernel
theorem dX1_swap_23 : decode cX1_swap 23 = .ok (.iload_n 2, 1) := by decide +kernel
theorem dX1_swap_24 : decode cX1_swap 24 = .ok (.iload_n 3, 1) := by decide +kernel
theorem dX1_swap_25 : decode cX1_swap 25 = .ok (.iastore, 1) := by decide +kernel
theorem dX1_swap_26 : decode cX1_swap 26 = .ok (.return_, 1) := by decide +kernel
theorem dX2_init_0 : decode cX2_init 0 = .ok (.aload_n 0, 1) := by decide +kernel
theorem dX2_init_1 : decode cX2_init 1 = .ok (.invokespecial 3, 3) := by decide +kernel
theorem dX2_init_4 : decode cX2_init 4 = .ok (.aload_n 0, 1) := by decide +kernel
theorem dX2_init_5 : decode cX2_init 5 = .ok (.bipush 8, 2) := by decide +kernel
theorem dX2_init_7 : decode cX2_init 7 = .ok (.newarray .int, 2) := by decide +kernel
theorem dX2_init_9 : decode cX2_init 9 = .ok (.putfield 9, 3) := by decide +kernel
theorem dX2_init_12 : decode cX2_init 12 = .ok (.aload_n 0, 1) := by decide +kernel
theorem dX2_init_13 : decode cX2_init 13 = .ok (.bipush 8, 2) := by decide +kernel
theorem dX2_init_15 : decode cX2_init 15 = .ok (.newarray .int, 2) := by decide +kernel
theorem dX2_init_17 : decode cX2_init 17 = .ok (.putfield 15, 3) := by decide +kernel
theorem dX2_init_20 : decode cX2_init 20 = .ok (.return_, 1) := by decide +kernel
theorem dX2_note_0 : decode cX2_note 0 = .ok (.aload_n 0, 1) := by decide +kernel
theorem dX2_note_1 : decode cX2_note 1 = .ok (.getfield 18, 3) := by decide +kernel
theorem dX2_note_4 : decode cX2_note 4 = .ok (.bipush 8, 2) := by decide +kernel
theorem dX2_note_6 : decode cX2_note 6 = .ok (.if_icmp .lt 5, 3) := by decide +kernel
theorem dX2_note_9 : decode cX2_note 9 = .ok (.iconst 0, 1) := by decide +kernel
theorem dX2_note_10 : decode cX2_note 10 = .ok (.ireturn, 1) := by decide +kernel
theorem dX2_note_11 : decode cX2_note 11 = .ok (.aload_n 0, 1) := by decide +kernel
theorem dX2_note_12 : decode cX2_note 12 = .ok (.getfield 9, 3) := by decide +kernel
theorem dX2_note_15 : decode cX2_note 15 = .ok (.aload_n 0, 1) := by decide +kernel
theorem dX2_note_16 : decode cX2_note 16 = .ok (.getfield 18, 3) := by decide +kernel
theorem dX2_note_19 : decode cX2_note 19 = .ok (.iload_n 1, 1) := by decide +kernel
theorem dX2_note_20 : decode cX2_note 20 = .ok (.iastore, 1) := by decide +kernel
theorem dX2_note_21 : decode cX2_note 21 = .ok (.aload_n 0, 1) := by decide +kernel
theorem dX2_note_22 : decode cX2_note 22 = .ok (.getfield 15, 3) := by decide +kernel
theorem dX2_note_25 : decode cX2_note 25 = .ok (.aload_n 0, 1) := by decide +kernel
theorem dX2_note_26 : decode cX2_note 26 = .ok (.getfield 18, 3) := by decide +kernel
theorem dX2_note_29 : decode cX2_note 29 = .ok (.iload_n 2, 1) := by decide +kernel
theorem dX2_note_30 : decode cX2_note 30 = .ok (.iastore, 1) := by decide +kernel
theorem dX2_note_31 : decode cX2_note 31 = .ok (.aload_n 0, 1) := by decide +kernel
theorem dX2_note_32 : decode cX2_note 32 = .ok (.dup, 1) := by decide +kernel
theorem dX2_note_33 : decode cX2_note 33 = .ok (.getfield 18, 3) := by decide +kernel
theorem dX2_note_36 : decode cX2_note 36 = .ok (.iconst 1, 1) := by decide +kernel
theorem dX2_note_37 : decode cX2_note 37 = .ok (.iadd, 1) := by decide +kernel
theorem dX2_note_38 : decode cX2_note 38 = .ok (.putfield 18, 3) := by decide +kernel
theorem dX2_note_41 : decode cX2_note 41 = .ok (.iconst 1, 1) := by decide +kernel
theorem dX2_note_42 : decode cX2_note 42 = .ok (.ireturn, 1) := by decide +kernel
set_option maxRecDepth 20000 in
theorem ggX2_agreeWith_X4_counselBy : GoodIn wsX2_agreeWith wsX4_counselBy := goodIn_r _ [8, 9, 10, 11, 12, 13, 7, 14, 15, 16, 17, 18, 19, 20, 21, 22, 23, 24, 25, 26, 27, 28, 29, 30, 34, 35, 36, 37, 38, 39, 40] (by decide +kernel) (by decide +kernel)
set_option maxRecDepth 20000 in
theorem gX2_agreeWith_X4_counselBy : GoodIn wsX2_agreeWith (wsV RX2 22 RX4 yX4_counselBy wsX4_counselBy) := goodIn_app (goodIn_of _ (by decide +kernel)) ggX2_agreeWith_X4_counselBy
theorem dX2_agreeWith_0 : decode cX2_agreeWith 0 = .ok (.iconst 0, 1) := by decide +kernel
theorem dX2_agreeWith_1 : decode cX2_agreeWith 1 = .ok (.istore_n 2, 1) := by decide +kernel
theorem dX2_agreeWith_2 : decode cX2_agreeWith 2 = .ok (.iload_n 2, 1) := by decide +kernel
theorem dX2_agreeWith_3 : decode cX2_agreeWith 3 = .ok (.aload_n 0, 1) := by decide +kernel
theorem dX2_agreeWith_4 : decode cX2_agreeWith 4 = .ok (.getfield 18, 3) := by decide +kernel
theorem dX2_agreeWith_7 : decode cX2_agreeWith 7 = .ok (.if_icmp .ge 30, 3) := by decide +kernel
theorem dX2_agreeWith_10 : decode cX2_agreeWith 10 = .ok (.aload_n 1, 1) := by decide +kernel
theorem dX2_agreeWith_11 : decode cX2_agreeWith 11 = .ok (.aload_n 0, 1) := by decide +kernel
theorem dX2_agreeWith_12 : decode cX2_agreeWith 12 = .ok (.getfield 9, 3) := by decide +kernel
theorem dX2_agreeWith_15 : decode cX2_agreeWith 15 = .ok (.iload_n 2, 1) := by decide +kernel
theorem dX2_agreeWith_16 : decode cX2_agreeWith 16 = .ok (.iaload, 1) := by decide +kernel
theorem dX2_agreeWith_17 : decode cX2_agreeWith 17 = .ok (.invokevirtual 22, 3) := by decide +kernel
theorem dX2_agreeWith_20 : decode cX2_agreeWith 20 = .ok (.aload_n 0, 1) := by decide +kernel
theorem dX2_agreeWith_21 : decode cX2_agreeWith 21 = .ok (.getfield 15, 3) := by decide +kernel
theorem dX2_agreeWith_24 : decode cX2_agreeWith 24 = .ok (.iload_n 2, 1) := by decide +kernel
theorem dX2_agreeWith_25 : decode cX2_agreeWith 25 = .ok (.iaload, 1) := by decide +kernel
theorem dX2_agreeWith_26 : decode cX2_agreeWith 26 = .ok (.if_icmp .eq 5, 3) := by decide +kernel
theorem dX2_agreeWith_29 : decode cX2_agreeWith 29 = .ok (.iconst 0, 1) := by decide +kernel
theorem dX2_agreeWith_30 : decode cX2_agreeWith 30 = .ok (.ireturn, 1) := by decide +kernel
theorem dX2_agreeWith_31 : decode cX2_agreeWith 31 = .ok (.iinc 2 1, 3) := by decide +kernel
theorem dX2_agreeWith_34 : decode cX2_agreeWith 34 = .ok (.goto (-32), 3) := by decide +kernel
theorem dX2_agreeWith_37 : decode cX2_agreeWith 37 = .ok (.iconst 1, 1) := by decide +kernel
theorem dX2_agreeWith_38 : decode cX2_agreeWith 38 = .ok (.ireturn, 1) := by decide +kernel
theorem dX3_init_0 : decode cX3_init 0 = .ok (.aload_n 0, 1) := by decide +kernel
theorem dX3_init_1 : decode cX3_init 1 = .ok (.invokespecial 3, 3) := by decide +kernel
theorem dX3_init_4 : decode cX3_init 4 = .ok (.aload_n 0, 1) := by decide +kernel
theorem dX3_init_5 : decode cX3_init 5 = .ok (.bipush 60, 2) := by decide +kernel
theorem dX3_init_7 : decode cX3_init 7 = .ok (.newarray .int, 2) := by decide +kernel
theorem dX3_init_9 : decode cX3_init 9 = .ok (.putfield 9, 3) := by decide +kernel
theorem dX3_init_12 : decode cX3_init 12 = .ok (.return_, 1) := by decide +kernel
theorem dX3_begin_0 : decode cX3_begin 0 = .ok (.aload_n 0, 1) := by decide +kernel
theorem dX3_begin_1 : decode cX3_begin 1 = .ok (.iconst 1, 1) := by decide +kernel
theorem dX3_begin_2 : decode cX3_begin 2 = .ok (.putfield 15, 3) := by decide +kernel
theorem dX3_begin_5 : decode cX3_begin 5 = .ok (.aload_n 0, 1) := by decide +kernel
theorem dX3_begin_6 : decode cX3_begin 6 = .ok (.iload_n 1, 1) := by decide +kernel
theorem dX3_begin_7 : decode cX3_begin 7 = .ok (.putfield 19, 3) := by decide +kernel
theorem dX3_begin_10 : decode cX3_begin 10 = .ok (.aload_n 0, 1) := by decide +kernel
theorem dX3_begin_11 : decode cX3_begin 11 = .ok (.iload_n 2, 1) := by decide +kernel
theorem dX3_begin_12 : decode cX3_begin 12 = .ok (.iconst 0, 1) := by decide +kernel
theorem dX3_begin_13 : decode cX3_begin 13 = .ok (.invokestatic 23, 3) := by decide +kernel
theorem dX3_begin_16 : decode cX3_begin 16 = .ok (.bipush 60, 2) := by decide +kernel
theorem dX3_begin_18 : decode cX3_begin 18 = .ok (.invokestatic 29, 3) := by decide +kernel
theorem dX3_begin_21 : decode cX3_begin 21 = .ok (.putfield 32, 3) := by decide +kernel
theorem dX3_begin_24 : decode cX3_begin 24 = .ok (.iconst 0, 1) := by decide +kernel
theorem dX3_begin_25 : decode cX3_begin 25 = .ok (.istore_n 3, 1) := by decide +kernel
theorem dX3_begin_26 : decode cX3_begin 26 = .ok (.iload_n 3, 1) := by decide +kernel
theorem dX3_begin_27 : decode cX3_begin 27 = .ok (.bipush 60, 2) := by decide +kernel
theorem dX3_begin_29 : decode cX3_begin 29 = .ok (.if_icmp .ge 16, 3) := by decide +kernel
theorem dX3_begin_32 : decode cX3_begin 32 = .ok (.aload_n 0, 1) := by decide +kernel
theorem dX3_begin_33 : decode cX3_begin 33 = .ok (.getfield 9, 3) := by decide +kernel
theorem dX3_begin_36 : decode cX3_begin 36 = .ok (.iload_n 3, 1) := by decide +kernel
theorem dX3_begin_37 : decode cX3_begin 37 = .ok (.iconst 0, 1) := by decide +kernel
theorem dX3_begin_38 : decode cX3_begin 38 = .ok (.iastore, 1) := by decide +kernel
theorem dX3_begin_39 : decode cX3_begin 39 = .ok (.iinc 3 1, 3) := by decide +kernel
theorem dX3_begin_42 : decode cX3_begin 42 = .ok (.goto (-16), 3) := by decide +kernel
theorem dX3_begin_45 : decode cX3_begin 45 = .ok (.return_, 1) := by decide +kernel
theorem dX3_faultAsLane_0 : decode cX3_faultAsLane 0 = .ok (.aload_n 0, 1) := by decide +kernel
theorem dX3_faultAsLane_1 : decode cX3_faultAsLane 1 = .ok (.getfield 15, 3) := by decide +kernel
theorem dX3_faultAsLane_4 : decode cX3_faultAsLane 4 = .ok (.ifCond .ne 5, 3) := by decide +kernel
theorem dX3_faultAsLane_7 : decode cX3_faultAsLane 7 = .ok (.iconst 1, 1) := by decide +kernel
theorem dX3_faultAsLane_8 : decode cX3_faultAsLane 8 = .ok (.ireturn, 1) := by decide +kernel
theorem dX3_faultAsLane_9 : decode cX3_faultAsLane 9 = .ok (.aload_n 0, 1) := by decide +kernel
theorem dX3_faultAsLane_10 : decode cX3_faultAsLane 10 = .ok (.getfield 19, 3) := by decide +kernel
theorem dX3_faultAsLane_13 : decode cX3_faultAsLane 13 = .ok (.iload_n 1, 1) := by decide +kernel
theorem dX3_faultAsLane_14 : decode cX3_faultAsLane 14 = .ok (.if_icmp .ne 7, 3) := by decide +kernel
theorem dX3_faultAsLane_17 : decode cX3_faultAsLane 17 = .ok (.iconst 0, 1) := by decide +kernel
theorem dX3_faultAsLane_18 : decode cX3_faultAsLane 18 = .ok (.goto 4, 3) := by decide +kernel
theorem dX3_faultAsLane_21 : decode cX3_faultAsLane 21 = .ok (.iconst 2, 1) := by decide +kernel
theorem dX3_faultAsLane_22 : decode cX3_faultAsLane 22 = .ok (.ireturn, 1) := by decide +kernel
theorem dX3_faultOfCell_0 : decode cX3_faultOfCell 0 = .ok (.aload_n 0, 1) := by decide +kernel
theorem dX3_faultOfCell_1 : decode cX3_faultOfCell 1 = .ok (.getfield 15, 3) := by decide +kernel
theorem dX3_faultOfCell_4 : decode cX3_faultOfCell 4 = .ok (.ifCond .ne 5, 3) := by decide +kernel
theorem dX3_faultOfCell_7 : decode cX3_faultOfCell 7 = .ok (.iconst 1, 1) := by decide +kernel
theorem dX3_faultOfCell_8 : decode cX3_faultOfCell 8 = .ok (.ireturn, 1) := by decide +kernel
theorem dX3_faultOfCell_9 : decode cX3_faultOfCell 9 = .ok (.iload_n 1, 1) := by decide +kernel
theorem dX3_faultOfCell_10 : decode cX3_faultOfCell 10 = .ok (.ifCond .lt 15, 3) := by decide +kernel
theorem dX3_faultOfCell_13 : decode cX3_faultOfCell 13 = .ok (.iload_n 1, 1) := by decide +kernel
theorem dX3_faultOfCell_14 : decode cX3_faultOfCell 14 = .ok (.aload_n 0, 1) := by decide +kernel
theorem dX3_faultOfCell_15 : decode cX3_faultOfCell 15 = .ok (.getfield 32, 3) := by decide +kernel
theorem dX3_faultOfCell_18 : decode cX3_faultOfCell 18 = .ok (.if_icmp .ge 7, 3) := by decide +kernel
theorem dX3_faultOfCell_21 : decode cX3_faultOfCell 21 = .ok (.iconst 0, 1) := by decide +kernel
theorem dX3_faultOfCell_22 : decode cX3_faultOfCell 22 = .ok (.goto 4, 3) := by decide +kernel
theorem dX3_faultOfCell_25 : decode cX3_faultOfCell 25 = .ok (.iconst 3, 1) := by decide +kernel
theorem dX3_faultOfCell_26 : decode cX3_faultOfCell 26 = .ok (.ireturn, 1) := by decide +kernel
theorem dX3_faultOfCells_0 : decode cX3_faultOfCells 0 = .ok (.aload_n 0, 1) := by decide +kernel
theorem dX3_faultOfCells_1 : decode cX3_faultOfCells 1 = .ok (.getfield 15, 3) := by decide +kernel
theorem dX3_faultOfCells_4 : decode cX3_faultOfCells 4 = .ok (.ifCond .ne 5, 3) := by decide +kernel
theorem dX3_faultOfCells_7 : decode cX3_faultOfCells 7 = .ok (.iconst 1, 1) := by decide +kernel
theorem dX3_faultOfCells_8 : decode cX3_faultOfCells 8 = .ok (.ireturn, 1) := by decide +kernel
theorem dX3_faultOfCells_9 : decode cX3_faultOfCells 9 = .ok (.iload_n 1, 1) := by decide +kernel
theorem dX3_faultOfCells_10 : decode cX3_faultOfCells 10 = .ok (.ifCond .lt 29, 3) := by decide +kernel
theorem dX3_faultOfCells_13 : decode cX3_faultOfCells 13 = .ok (.iload_n 1, 1) := by decide +kernel
theorem dX3_faultOfCells_14 : decode cX3_faultOfCells 14 = .ok (.aload_n 0, 1) := by decide +kernel
theorem dX3_faultOfCells_15 : decode cX3_faultOfCells 15 = .ok (.getfield 32, 3) := by decide +kernel
theorem dX3_faultOfCells_18 : decode cX3_faultOfCells 18 = .ok (.if_icmp .gt 21, 3) := by decide +kernel
theorem dX3_faultOfCells_21 : decode cX3_faultOfCells 21 = .ok (.iload_n 2, 1) := by decide +kernel
theorem dX3_faultOfCells_22 : decode cX3_faultOfCells 22 = .ok (.ifCond .lt 17, 3) := by decide +kernel
theorem dX3_faultOfCells_25 : decode cX3_faultOfCells 25 = .ok (.iload_n 2, 1) := by decide +kernel
theorem dX3_faultOfCells_26 : decode cX3_faultOfCells 26 = .ok (.aload_n 0, 1) := by decide +kernel
theorem dX3_faultOfCells_27 : decode cX3_faultOfCells 27 = .ok (.getfield 32, 3) := by decide +kernel
theorem dX3_faultOfCells_30 : decode cX3_faultOfCells 30 = .ok (.iload_n 1, 1) := by decide +kernel
theorem dX3_faultOfCells_31 : decode cX3_faultOfCells 31 = .ok (.isub, 1) := by decide +kernel
theorem dX3_faultOfCells_32 : decode cX3_faultOfCells 32 = .ok (.if_icmp .gt 7, 3) := by decide +kernel
theorem dX3_faultOfCells_35 : decode cX3_faultOfCells 35 = .ok (.iconst 0, 1) := by decide +kernel
theorem dX3_faultOfCells_36 : decode cX3_faultOfCells 36 = .ok (.goto 4, 3) := by decide +kernel
theorem dX3_faultOfCells_39 : decode cX3_faultOfCells 39 = .ok (.iconst 3, 1) := by decide +kernel
theorem dX3_faultOfCells_40 : decode cX3_faultOfCells 40 = .ok (.ireturn, 1) := by decide +kernel
set_option maxRecDepth 20000 in
theorem ggX3_faultOfCopy_X3_faultOfCells : GoodIn wsX3_faultOfCopy wsX3_faultOfCells := goodIn_r _ [7, 1, 8, 9, 10, 11, 12] (by decide +kernel) (by decide +kernel)
set_option maxRecDepth 20000 in
theorem gX3_faultOfCopy_X3_faultOfCells : GoodIn wsX3_faultOfCopy (wsV RX3 35 RX3 yX3_faultOfCells wsX3_faultOfCells) := goodIn_app (goodIn_of _ (by decide +kernel)) ggX3_faultOfCopy_X3_faultOfCells
theorem dX3_faultOfCopy_0 : decode cX3_faultOfCopy 0 = .ok (.aload_n 0, 1) := by decide +kernel
theorem dX3_faultOfCopy_1 : decode cX3_faultOfCopy 1 = .ok (.getfield 15, 3) := by decide +kernel
theorem dX3_faultOfCopy_4 : decode cX3_faultOfCopy 4 = .ok (.ifCond .eq 10, 3) := by decide +kernel
theorem dX3_faultOfCopy_7 : decode cX3_faultOfCopy 7 = .ok (.aload_n 2, 1) := by decide +kernel
theorem dX3_faultOfCopy_8 : decode cX3_faultOfCopy 8 = .ok (.getfield 15, 3) := by decide +kernel
theorem dX3_faultOfCopy_11 : decode cX3_faultOfCopy 11 = .ok (.ifCond .ne 5, 3) := by decide +kernel
theorem dX3_faultOfCopy_14 : decode cX3_faultOfCopy 14 = .ok (.iconst 1, 1) := by decide +kernel
theorem dX3_faultOfCopy_15 : decode cX3_faultOfCopy 15 = .ok (.ireturn, 1) := by decide +kernel
theorem dX3_faultOfCopy_16 : decode cX3_faultOfCopy 16 = .ok (.aload_n 0, 1) := by decide +kernel
theorem dX3_faultOfCopy_17 : decode cX3_faultOfCopy 17 = .ok (.getfield 19, 3) := by decide +kernel
theorem dX3_faultOfCopy_20 : decode cX3_faultOfCopy 20 = .ok (.aload_n 2, 1) := by decide +kernel
theorem dX3_faultOfCopy_21 : decode cX3_faultOfCopy 21 = .ok (.getfield 19, 3) := by decide +kernel
theorem dX3_faultOfCopy_24 : decode cX3_faultOfCopy 24 = .ok (.if_icmp .eq 5, 3) := by decide +kernel
theorem dX3_faultOfCopy_27 : decode cX3_faultOfCopy 27 = .ok (.iconst 2, 1) := by decide +kernel
theorem dX3_faultOfCopy_28 : decode cX3_faultOfCopy 28 = .ok (.ireturn, 1) := by decide +kernel
theorem dX3_faultOfCopy_29 : decode cX3_faultOfCopy 29 = .ok (.aload_n 0, 1) := by decide +kernel
theorem dX3_faultOfCopy_30 : decode cX3_faultOfCopy 30 = .ok (.iload_n 1, 1) := by decide +kernel
theorem dX3_faultOfCopy_31 : decode cX3_faultOfCopy 31 = .ok (.iload 4, 2) := by decide +kernel
theorem dX3_faultOfCopy_33 : decode cX3_faultOfCopy 33 = .ok (.invokevirtual 35, 3) := by decide +kernel
theorem dX3_faultOfCopy_36 : decode cX3_faultOfCopy 36 = .ok (.istore 5, 2) := by decide +kernel
theorem dX3_faultOfCopy_38 : decode cX3_faultOfCopy 38 = .ok (.iload 5, 2) := by decide +kernel
theorem dX3_faultOfCopy_40 : decode cX3_faultOfCopy 40 = .ok (.ifCond .ne 13, 3) := by decide +kernel
theorem dX3_faultOfCopy_43 : decode cX3_faultOfCopy 43 = .ok (.aload_n 2, 1) := by decide +kernel
theorem dX3_faultOfCopy_44 : decode cX3_faultOfCopy 44 = .ok (.iload_n 3, 1) := by decide +kernel
theorem dX3_faultOfCopy_45 : decode cX3_faultOfCopy 45 = .ok (.iload 4, 2) := by decide +kernel
theorem dX3_faultOfCopy_47 : decode cX3_faultOfCopy 47 = .ok (.invokevirtual 35, 3) := by decide +kernel
theorem dX3_faultOfCopy_50 : decode cX3_faultOfCopy 50 = .ok (.goto 5, 3) := by decide +kernel
theorem dX3_faultOfCopy_53 : decode cX3_faultOfCopy 53 = .ok (.iload 5, 2) := by decide +kernel
theorem dX3_faultOfCopy_55 : decode cX3_faultOfCopy 55 = .ok (.ireturn, 1) := by decide +kernel
theorem dX3_getCell_0 : decode cX3_getCell 0 = .ok (.iload_n 1, 1) := by decide +kernel
theorem dX3_getCell_1 : decode cX3_getCell 1 = .ok (.ifCond .lt 20, 3) := by decide +kernel
theorem dX3_getCell_4 : decode cX3_getCell 4 = .ok (.iload_n 1, 1) := by decide +kernel
theorem dX3_getCell_5 : decode cX3_getCell 5 = .ok (.aload_n 0, 1) := by decide +kernel
theorem dX3_getCell_6 : decode cX3_getCell 6 = .ok (.getfield 32, 3) := by decide +kernel
theorem dX3_getCell_9 : decode cX3_getCell 9 = .ok (.if_icmp .ge 12, 3) := by decide +kernel
theorem dX3_getCell_12 : decode cX3_getCell 12 = .ok (.aload_n 0, 1) := by decide +kernel
theorem dX3_getCell_13 : decode cX3_getCell 13 = .ok (.getfield 9, 3) := by decide +kernel
theorem dX3_getCell_16 : decode cX3_getCell 16 = .ok (.iload_n 1, 1) := by decide +kernel
theorem dX3_getCell_17 : decode cX3_getCell 17 = .ok (.iaload, 1) := by decide +kernel
theorem dX3_getCell_18 : decode cX3_getCell 18 = .ok (.goto 4, 3) := by decide +kernel
theorem dX3_getCell_21 : decode cX3_getCell 21 = .ok (.iconst 0, 1) := by decide +kernel
theorem dX3_getCell_22 : decode cX3_getCell 22 = .ok (.ireturn, 1) := by decide +kernel
set_option maxRecDepth 20000 in
theorem ggX3_setCell_X3_cut : GoodIn wsX3_setCell wsX3_cut := goodIn_r _ [7, 8, 9, 10, 11, 12] (by decide +kernel) (by decide +kernel)
set_option maxRecDepth 20000 in
theorem gX3_setCell_X3_cut : GoodIn wsX3_setCell (wsV RX3 38 RX3 yX3_cut wsX3_cut) := goodIn_app (goodIn_of _ (by decide +kernel)) ggX3_setCell_X3_cut
theorem dX3_setCell_0 : decode cX3_setCell 0 = .ok (.iload_n 1, 1) := by decide +kernel
theorem dX3_setCell_1 : decode cX3_setCell 1 = .ok (.ifCond .lt 22, 3) := by decide +kernel
theorem dX3_setCell_4 : decode cX3_setCell 4 = .ok (.iload_n 1, 1) := by decide +kernel
theorem dX3_setCell_5 : decode cX3_setCell 5 = .ok (.aload_n 0, 1) := by decide +kernel
theorem dX3_setCell_6 : decode cX3_setCell 6 = .ok (.getfield 32, 3) := by decide +kernel
theorem dX3_setCell_9 : decode cX3_setCell 9 = .ok (.if_icmp .ge 14, 3) := by decide +kernel
theorem dX3_setCell_12 : decode cX3_setCell 12 = .ok (.aload_n 0, 1) := by decide +kernel
theorem dX3_setCell_13 : decode cX3_setCell 13 = .ok (.getfield 9, 3) := by decide +kernel
theorem dX3_setCell_16 : decode cX3_setCell 16 = .ok (.iload_n 1, 1) := by decide +kernel
theorem dX3_setCell_17 : decode cX3_setCell 17 = .ok (.aload_n 0, 1) := by decide +kernel
theorem dX3_setCell_18 : decode cX3_setCell 18 = .ok (.iload_n 2, 1) := by decide +kernel
theorem dX3_setCell_19 : decode cX3_setCell 19 = .ok (.invokevirtual 38, 3) := by decide +kernel
theorem dX3_setCell_22 : decode cX3_setCell 22 = .ok (.iastore, 1) := by decide +kernel
theorem dX3_setCell_23 : decode cX3_setCell 23 = .ok (.return_, 1) := by decide +kernel
theorem dX3_cut_0 : decode cX3_cut 0 = .ok (.aload_n 0, 1) := by decide +kernel
theorem dX3_cut_1 : decode cX3_cut 1 = .ok (.getfield 19, 3) := by decide +kernel
theorem dX3_cut_4 : decode cX3_cut 4 = .ok (.lookupswitch 34 #[(0, 28), (1, 31)], 28) := by decide +kernel
theorem dX3_cut_32 : decode cX3_cut 32 = .ok (.iload_n 1, 1) := by decide +kernel
theorem dX3_cut_33 : decode cX3_cut 33 = .ok (.i2b, 1) := by decide +kernel
theorem dX3_cut_34 : decode cX3_cut 34 = .ok (.ireturn, 1) := by decide +kernel
theorem dX3_cut_35 : decode cX3_cut 35 = .ok (.iload_n 1, 1) := by decide +kernel
theorem dX3_cut_36 : decode cX3_cut 36 = .ok (.i2s, 1) := by decide +kernel
theorem dX3_cut_37 : decode cX3_cut 37 = .ok (.ireturn, 1) := by decide +kernel
theorem dX3_cut_38 : decode cX3_cut 38 = .ok (.iload_n 1, 1) := by decide +kernel
theorem dX3_cut_39 : decode cX3_cut 39 = .ok (.ireturn, 1) := by decide +kernel
set_option maxRecDepth 20000 in
theorem ggX4_init_X0_init : GoodIn wsX4_init wsX0_init := goodIn_r _ [9, 10, 2, 3] (by decide +kernel) (by decide +kernel)
set_option maxRecDepth 20000 in
theorem gX4_init_X0_init_n17 : GoodIn wsX4_init (wsX0_init) := ggX4_init_X0_init
theorem dX4_init_0 : decode cX4_init 0 = .ok (.aload_n 0, 1) := by decide +kernel
theorem dX4_init_1 : decode cX4_init 1 = .ok (.invokespecial 3, 3) := by decide +kernel
theorem dX4_init_4 : decode cX4_init 4 = .ok (.aload_n 0, 1) := by decide +kernel
theorem dX4_init_5 : decode cX4_init 5 = .ok (.bipush 6, 2) := by decide +kernel
theorem dX4_init_7 : decode cX4_init 7 = .ok (.anewarray 9, 3) := by decide +kernel
theorem dX4_init_10 : decode cX4_init 10 = .ok (.putfield 11, 3) := by decide +kernel
theorem dX4_init_13 : decode cX4_init 13 = .ok (.iconst 0, 1) := by decide +kernel
theorem dX4_init_14 : decode cX4_init 14 = .ok (.istore_n 1, 1) := by decide +kernel
theorem dX4_init_15 : decode cX4_init 15 = .ok (.iload_n 1, 1) := by decide +kernel
theorem dX4_init_16 : decode cX4_init 16 = .ok (.bipush 6, 2) := by decide +kernel
theorem dX4_init_18 : decode cX4_init 18 = .ok (.if_icmp .ge 22, 3) := by decide +kernel
theorem dX4_init_21 : decode cX4_init 21 = .ok (.aload_n 0, 1) := by decide +kernel
theorem dX4_init_22 : decode cX4_init 22 = .ok (.getfield 11, 3) := by decide +kernel
theorem dX4_init_25 : decode cX4_init 25 = .ok (.iload_n 1, 1) := by decide +kernel
theorem dX4_init_26 : decode cX4_init 26 = .ok (.new 9, 3) := by decide +kernel
theorem dX4_init_29 : decode cX4_init 29 = .ok (.dup, 1) := by decide +kernel
theorem dX4_init_30 : decode cX4_init 30 = .ok (.invokespecial 17, 3) := by decide +kernel
theorem dX4_init_33 : decode cX4_init 33 = .ok (.aastore, 1) := by decide +kernel
theorem dX4_init_34 : decode cX4_init 34 = .ok (.iinc 1 1, 3) := by decide +kernel
theorem dX4_init_37 : decode cX4_init 37 = .ok (.goto (-22), 3) := by decide +kernel
theorem dX4_init_40 : decode cX4_init 40 = .ok (.return_, 1) := by decide +kernel
theorem dX4_stands_0 : decode cX4_stands 0 = .ok (.aload_n 0, 1) := by decide +kernel
theorem dX4_stands_1 : decode cX4_stands 1 = .ok (.getfield 18, 3) := by decide +kernel
theorem dX4_stands_4 : decode cX4_stands 4 = .ok (.ifCond .le 7, 3) := by decide +kernel
theorem dX4_stands_7 : decode cX4_stands 7 = .ok (.iconst 1, 1) := by decide +kernel
theorem dX4_stands_8 : decode cX4_stands 8 = .ok (.goto 4, 3) := by decide +kernel
theorem dX4_stands_11 : decode cX4_stands 11 = .ok (.iconst 0, 1) := by decide +kernel
theorem dX4_stands_12 : decode cX4_stands 12 = .ok (.ireturn, 1) := by decide +kernel
theorem dX4_layerAt_0 : decode cX4_layerAt 0 = .ok (.iload_n 1, 1) := by decide +kernel
theorem dX4_layerAt_1 : decode cX4_layerAt 1 = .ok (.ifCond .lt 26, 3) := by decide +kernel
theorem dX4_layerAt_4 : decode cX4_layerAt 4 = .ok (.iload_n 1, 1) := by decide +kernel
theorem dX4_layerAt_5 : decode cX4_layerAt 5 = .ok (.aload_n 0, 1) := by decide +kernel
theorem dX4_layerAt_6 : decode cX4_layerAt 6 = .ok (.getfield 18, 3) := by decide +kernel
theorem dX4_layerAt_9 : decode cX4_layerAt 9 = .ok (.if_icmp .ge 18, 3) := by decide +kernel
theorem dX4_layerAt_12 : decode cX4_layerAt 12 = .ok (.iload_n 1, 1) := by decide +kernel
theorem dX4_layerAt_13 : decode cX4_layerAt 13 = .ok (.bipush 6, 2) := by decide +kernel
theorem dX4_layerAt_15 : decode cX4_layerAt 15 = .ok (.if_icmp .ge 12, 3) := by decide +kernel
theorem dX4_layerAt_18 : decode cX4_layerAt 18 = .ok (.aload_n 0, 1) := by decide +kernel
theorem dX4_layerAt_19 : decode cX4_layerAt 19 = .ok (.getfield 11, 3) := by decide +kernel
theorem dX4_layerAt_22 : decode cX4_layerAt 22 = .ok (.iload_n 1, 1) := by decide +kernel
theorem dX4_layerAt_23 : decode cX4_layerAt 23 = .ok (.aaload, 1) := by decide +kernel
theorem dX4_layerAt_24 : decode cX4_layerAt 24 = .ok (.goto 4, 3) := by decide +kernel
theorem dX4_layerAt_27 : decode cX4_layerAt 27 = .ok (.aconst_null, 1) := by decide +kernel
theorem dX4_layerAt_28 : decode cX4_layerAt 28 = .ok (.areturn, 1) := by decide +kernel
theorem dX4_warmth_0 : decode cX4_warmth 0 = .ok (.aload_n 0, 1) := by decide +kernel
theorem dX4_warmth_1 : decode cX4_warmth 1 = .ok (.getfield 22, 3) := by decide +kernel
theorem dX4_warmth_4 : decode cX4_warmth 4 = .ok (.aload_n 0, 1) := by decide +kernel
theorem dX4_warmth_5 : decode cX4_warmth 5 = .ok (.getfield 25, 3) := by decide +kernel
theorem dX4_warmth_8 : decode cX4_warmth 8 = .ok (.isub, 1) := by decide +kernel
theorem dX4_warmth_9 : decode cX4_warmth 9 = .ok (.ireturn, 1) := by decide +kernel
set_option maxRecDepth 20000 in
theorem ggX4_liftedBy_X0_grip : GoodIn wsX4_liftedBy wsX0_grip := goodIn_r _ [7, 8, 9, 14, 15, 16] (by decide +kernel) (by decide +kernel)
set_option maxRecDepth 20000 in
theorem gX4_liftedBy_X0_grip : GoodIn wsX4_liftedBy (wsV RX4 28 RX0 yX0_grip wsX0_grip) := goodIn_app (goodIn_of _ (by decide +kernel)) ggX4_liftedBy_X0_grip
theorem dX4_liftedBy_0 : decode cX4_liftedBy 0 = .ok (.iconst 0, 1) := by decide +kernel
theorem dX4_liftedBy_1 : decode cX4_liftedBy 1 = .ok (.istore_n 2, 1) := by decide +kernel
theorem dX4_liftedBy_2 : decode cX4_liftedBy 2 = .ok (.iload_n 2, 1) := by decide +kernel
theorem dX4_liftedBy_3 : decode cX4_liftedBy 3 = .ok (.aload_n 0, 1) := by decide +kernel
theorem dX4_liftedBy_4 : decode cX4_liftedBy 4 = .ok (.getfield 18, 3) := by decide +kernel
theorem dX4_liftedBy_7 : decode cX4_liftedBy 7 = .ok (.if_icmp .ge 24, 3) := by decide +kernel
theorem dX4_liftedBy_10 : decode cX4_liftedBy 10 = .ok (.aload_n 0, 1) := by decide +kernel
theorem dX4_liftedBy_11 : decode cX4_liftedBy 11 = .ok (.getfield 11, 3) := by decide +kernel
theorem dX4_liftedBy_14 : decode cX4_liftedBy 14 = .ok (.iload_n 2, 1) := by decide +kernel
theorem dX4_liftedBy_15 : decode cX4_liftedBy 15 = .ok (.aaload, 1) := by decide +kernel
theorem dX4_liftedBy_16 : decode cX4_liftedBy 16 = .ok (.invokevirtual 28, 3) := by decide +kernel
theorem dX4_liftedBy_19 : decode cX4_liftedBy 19 = .ok (.iload_n 1, 1) := by decide +kernel
theorem dX4_liftedBy_20 : decode cX4_liftedBy 20 = .ok (.if_icmp .le 5, 3) := by decide +kernel
theorem dX4_liftedBy_23 : decode cX4_liftedBy 23 = .ok (.iload_n 2, 1) := by decide +kernel
theorem dX4_liftedBy_24 : decode cX4_liftedBy 24 = .ok (.ireturn, 1) := by decide +kernel
theorem dX4_liftedBy_25 : decode cX4_liftedBy 25 = .ok (.iinc 2 1, 3) := by decide +kernel
theorem dX4_liftedBy_28 : decode cX4_liftedBy 28 = .ok (.goto (-26), 3) := by decide +kernel
theorem dX4_liftedBy_31 : decode cX4_liftedBy 31 = .ok (.aload_n 0, 1) := by decide +kernel
theorem dX4_liftedBy_32 : decode cX4_liftedBy 32 = .ok (.getfield 18, 3) := by decide +kernel
theorem dX4_liftedBy_35 : decode cX4_liftedBy 35 = .ok (.ireturn, 1) := by decide +kernel
set_option maxRecDepth 20000 in
theorem ggX4_heardBy_X0_grip : GoodIn wsX4_heardBy wsX0_grip := goodIn_r _ [8, 9, 10, 15, 16, 17] (by decide +kernel) (by decide +kernel)
set_option maxRecDepth 20000 in
theorem gX4_heardBy_X0_grip : GoodIn wsX4_heardBy (wsV RX4 28 RX0 yX0_grip wsX0_grip) := goodIn_app (goodIn_of _ (by decide +kernel)) ggX4_heardBy_X0_grip
theorem dX4_heardBy_0 : decode cX4_heardBy 0 = .ok (.iconst 0, 1) := by decide +kernel
theorem dX4_heardBy_1 : decode cX4_heardBy 1 = .ok (.istore_n 2, 1) := by decide +kernel
theorem dX4_heardBy_2 : decode cX4_heardBy 2 = .ok (.iload_n 2, 1) := by decide +kernel
theorem dX4_heardBy_3 : decode cX4_heardBy 3 = .ok (.aload_n 0, 1) := by decide +kernel
theorem dX4_heardBy_4 : decode cX4_heardBy 4 = .ok (.getfield 18, 3) := by decide +kernel
theorem dX4_heardBy_7 : decode cX4_heardBy 7 = .ok (.if_icmp .ge 37, 3) := by decide +kernel
theorem dX4_heardBy_10 : decode cX4_heardBy 10 = .ok (.aload_n 0, 1) := by decide +kernel
theorem dX4_heardBy_11 : decode cX4_heardBy 11 = .ok (.getfield 11, 3) := by decide +kernel
theorem dX4_heardBy_14 : decode cX4_heardBy 14 = .ok (.iload_n 2, 1) := by decide +kernel
theorem dX4_heardBy_15 : decode cX4_heardBy 15 = .ok (.aaload, 1) := by decide +kernel
theorem dX4_heardBy_16 : decode cX4_heardBy 16 = .ok (.getfield 32, 3) := by decide +kernel
theorem dX4_heardBy_19 : decode cX4_heardBy 19 = .ok (.iconst 2, 1) := by decide +kernel
theorem dX4_heardBy_20 : decode cX4_heardBy 20 = .ok (.if_icmp .eq 16, 3) := by decide +kernel
theorem dX4_heardBy_23 : decode cX4_heardBy 23 = .ok (.aload_n 0, 1) := by decide +kernel
theorem dX4_heardBy_24 : decode cX4_heardBy 24 = .ok (.getfield 11, 3) := by decide +kernel
theorem dX4_heardBy_27 : decode cX4_heardBy 27 = .ok (.iload_n 2, 1) := by decide +kernel
theorem dX4_heardBy_28 : decode cX4_heardBy 28 = .ok (.aaload, 1) := by decide +kernel
theorem dX4_heardBy_29 : decode cX4_heardBy 29 = .ok (.invokevirtual 28, 3) := by decide +kernel
theorem dX4_heardBy_32 : decode cX4_heardBy 32 = .ok (.iload_n 1, 1) := by decide +kernel
theorem dX4_heardBy_33 : decode cX4_heardBy 33 = .ok (.if_icmp .le 5, 3) := by decide +kernel
theorem dX4_heardBy_36 : decode cX4_heardBy 36 = .ok (.iload_n 2, 1) := by decide +kernel
theorem dX4_heardBy_37 : decode cX4_heardBy 37 = .ok (.ireturn, 1) := by decide +kernel
theorem dX4_heardBy_38 : decode cX4_heardBy 38 = .ok (.iinc 2 1, 3) := by decide +kernel
theorem dX4_heardBy_41 : decode cX4_heardBy 41 = .ok (.goto (-39), 3) := by decide +kernel
theorem dX4_heardBy_44 : decode cX4_heardBy 44 = .ok (.aload_n 0, 1) := by decide +kernel
theorem dX4_heardBy_45 : decode cX4_heardBy 45 = .ok (.getfield 18, 3) := by decide +kernel
theorem dX4_heardBy_48 : decode cX4_heardBy 48 = .ok (.ireturn, 1) := by decide +kernel
set_option maxRecDepth 20000 in
theorem ggX4_counselBy_X4_heardBy : GoodIn wsX4_counselBy wsX4_heardBy := goodIn_r _ [7, 8, 1, 9, 10, 11, 12, 13, 14, 15, 16, 24, 25, 26, 27, 28, 29, 30] (by decide +kernel) (by decide +kernel)
set_option maxRecDepth 20000 in
theorem gX4_counselBy_X4_heardBy : GoodIn wsX4_counselBy (wsV RX4 35 RX4 yX4_heardBy wsX4_heardBy) := goodIn_app (goodIn_of _ (by decide +kernel)) ggX4_counselBy_X4_heardBy
set_option maxRecDepth 20000 in
theorem ggX4_counselBy_X4_votesOf : GoodIn wsX4_counselBy wsX4_votesOf := goodIn_r _ [20, 1, 2, 24, 25, 26, 27, 28, 29, 30] (by decide +kernel) (by decide +kernel)
set_option maxRecDepth 20000 in
theorem gX4_counselBy_X4_votesOf : GoodIn wsX4_counselBy (wsV RX4 39 RX4 yX4_votesOf wsX4_votesOf) := goodIn_app (goodIn_of _ (by decide +kernel)) ggX4_counselBy_X4_votesOf
set_option maxRecDepth 20000 in
theorem ggX4_counselBy_X4_votesFor : GoodIn wsX4_counselBy wsX4_votesFor := goodIn_r _ [23] (by decide +kernel) (by decide +kernel)
set_option maxRecDepth 20000 in
theorem gX4_counselBy_X4_votesFor : GoodIn wsX4_counselBy (va_wsS RX4 46 yX4_votesFor wsX4_votesFor) := goodIn_app (goodIn_of _ (by decide +kernel)) ggX4_counselBy_X4_votesFor
theorem dX4_counselBy_0 : decode cX4_counselBy 0 = .ok (.aload_n 0, 1) := by decide +kernel
theorem dX4_counselBy_1 : decode cX4_counselBy 1 = .ok (.iload_n 1, 1) := by decide +kernel
theorem dX4_counselBy_2 : decode cX4_counselBy 2 = .ok (.invokevirtual 35, 3) := by decide +kernel
theorem dX4_counselBy_5 : decode cX4_counselBy 5 = .ok (.istore_n 2, 1) := by decide +kernel
theorem dX4_counselBy_6 : decode cX4_counselBy 6 = .ok (.aload_n 0, 1) := by decide +kernel
theorem dX4_counselBy_7 : decode cX4_counselBy 7 = .ok (.iload_n 2, 1) := by decide +kernel
theorem dX4_counselBy_8 : decode cX4_counselBy 8 = .ok (.invokevirtual 39, 3) := by decide +kernel
theorem dX4_counselBy_11 : decode cX4_counselBy 11 = .ok (.lstore_n 3, 1) := by decide +kernel
theorem dX4_counselBy_12 : decode cX4_counselBy 12 = .ok (.iconst 0, 1) := by decide +kernel
theorem dX4_counselBy_13 : decode cX4_counselBy 13 = .ok (.istore 5, 2) := by decide +kernel
theorem dX4_counselBy_15 : decode cX4_counselBy 15 = .ok (.bipush (-9), 2) := by decide +kernel
theorem dX4_counselBy_17 : decode cX4_counselBy 17 = .ok (.istore 6, 2) := by decide +kernel
theorem dX4_counselBy_19 : decode cX4_counselBy 19 = .ok (.iconst 0, 1) := by decide +kernel
theorem dX4_counselBy_20 : decode cX4_counselBy 20 = .ok (.istore 7, 2) := by decide +kernel
theorem dX4_counselBy_22 : decode cX4_counselBy 22 = .ok (.iload 7, 2) := by decide +kernel
theorem dX4_counselBy_24 : decode cX4_counselBy 24 = .ok (.iload_n 2, 1) := by decide +kernel
theorem dX4_counselBy_25 : decode cX4_counselBy 25 = .ok (.if_icmp .ge 48, 3) := by decide +kernel
theorem dX4_counselBy_28 : decode cX4_counselBy 28 = .ok (.aload_n 0, 1) := by decide +kernel
theorem dX4_counselBy_29 : decode cX4_counselBy 29 = .ok (.getfield 11, 3) := by decide +kernel
theorem dX4_counselBy_32 : decode cX4_counselBy 32 = .ok (.iload 7, 2) := by decide +kernel
theorem dX4_counselBy_34 : decode cX4_counselBy 34 = .ok (.aaload, 1) := by decide +kernel
theorem dX4_counselBy_35 : decode cX4_counselBy 35 = .ok (.getfield 43, 3) := by decide +kernel
theorem dX4_counselBy_38 : decode cX4_counselBy 38 = .ok (.lload_n 3, 1) := by decide +kernel
theorem dX4_counselBy_39 : decode cX4_counselBy 39 = .ok (.invokestatic 46, 3) := by decide +kernel
theorem dX4_counselBy_42 : decode cX4_counselBy 42 = .ok (.istore 8, 2) := by decide +kernel
theorem dX4_counselBy_44 : decode cX4_counselBy 44 = .ok (.iload 8, 2) := by decide +kernel
theorem dX4_counselBy_46 : decode cX4_counselBy 46 = .ok (.iload 5, 2) := by decide +kernel
theorem dX4_counselBy_48 : decode cX4_counselBy 48 = .ok (.if_icmp .le 19, 3) := by decide +kernel
theorem dX4_counselBy_51 : decode cX4_counselBy 51 = .ok (.iload 8, 2) := by decide +kernel
theorem dX4_counselBy_53 : decode cX4_counselBy 53 = .ok (.istore 5, 2) := by decide +kernel
theorem dX4_counselBy_55 : decode cX4_counselBy 55 = .ok (.aload_n 0, 1) := by decide +kernel
theorem dX4_counselBy_56 : decode cX4_counselBy 56 = .ok (.getfield 11, 3) := by decide +kernel
theorem dX4_counselBy_59 : decode cX4_counselBy 59 = .ok (.iload 7, 2) := by decide +kernel
theorem dX4_counselBy_61 : decode cX4_counselBy 61 = .ok (.aaload, 1) := by decide +kernel
theorem dX4_counselBy_62 : decode cX4_counselBy 62 = .ok (.getfield 43, 3) := by decide +kernel
theorem dX4_counselBy_65 : decode cX4_counselBy 65 = .ok (.istore 6, 2) := by decide +kernel
theorem dX4_counselBy_67 : decode cX4_counselBy 67 = .ok (.iinc 7 1, 3) := by decide +kernel
theorem dX4_counselBy_70 : decode cX4_counselBy 70 = .ok (.goto (-48), 3) := by decide +kernel
theorem dX4_counselBy_73 : decode cX4_counselBy 73 = .ok (.iload 6, 2) := by decide +kernel
theorem dX4_counselBy_75 : decode cX4_counselBy 75 = .ok (.ireturn, 1) := by decide +kernel
set_option maxRecDepth 20000 in
theorem ggX4_mostAlike_X4_votesOf : GoodIn wsX4_mostAlike wsX4_votesOf := goodIn_r _ [11, 1, 2, 15, 16, 17, 18, 19, 20, 21] (by decide +kernel) (by decide +kernel)
set_option maxRecDepth 20000 in
theorem gX4_mostAlike_X4_votesOf : GoodIn wsX4_mostAlike (wsV RX4 39 RX4 yX4_votesOf wsX4_votesOf) := goodIn_app (goodIn_of _ (by decide +kernel)) ggX4_mostAlike_X4_votesOf
set_option maxRecDepth 20000 in
theorem ggX4_mostAlike_X4_votesFor : GoodIn wsX4_mostAlike wsX4_votesFor := goodIn_r _ [14] (by decide +kernel) (by decide +kernel)
set_option maxRecDepth 20000 in
theorem gX4_mostAlike_X4_votesFor : GoodIn wsX4_mostAlike (va_wsS RX4 46 yX4_votesFor wsX4_votesFor) := goodIn_app (goodIn_of _ (by decide +kernel)) ggX4_mostAlike_X4_votesFor
theorem dX4_mostAlike_0 : decode cX4_mostAlike 0 = .ok (.aload_n 0, 1) := by decide +kernel
theorem dX4_mostAlike_1 : decode cX4_mostAlike 1 = .ok (.iload_n 1, 1) := by decide +kernel
theorem dX4_mostAlike_2 : decode cX4_mostAlike 2 = .ok (.invokevirtual 39, 3) := by decide +kernel
theorem dX4_mostAlike_5 : decode cX4_mostAlike 5 = .ok (.lstore_n 2, 1) := by decide +kernel
theorem dX4_mostAlike_6 : decode cX4_mostAlike 6 = .ok (.iconst 0, 1) := by decide +kernel
theorem dX4_mostAlike_7 : decode cX4_mostAlike 7 = .ok (.istore 4, 2) := by decide +kernel
theorem dX4_mostAlike_9 : decode cX4_mostAlike 9 = .ok (.iconst 0, 1) := by decide +kernel
theorem dX4_mostAlike_10 : decode cX4_mostAlike 10 = .ok (.istore 5, 2) := by decide +kernel
theorem dX4_mostAlike_12 : decode cX4_mostAlike 12 = .ok (.iload 5, 2) := by decide +kernel
theorem dX4_mostAlike_14 : decode cX4_mostAlike 14 = .ok (.iload_n 1, 1) := by decide +kernel
theorem dX4_mostAlike_15 : decode cX4_mostAlike 15 = .ok (.if_icmp .ge 30, 3) := by decide +kernel
theorem dX4_mostAlike_18 : decode cX4_mostAlike 18 = .ok (.iload 4, 2) := by decide +kernel
theorem dX4_mostAlike_20 : decode cX4_mostAlike 20 = .ok (.aload_n 0, 1) := by decide +kernel
theorem dX4_mostAlike_21 : decode cX4_mostAlike 21 = .ok (.getfield 11, 3) := by decide +kernel
theorem dX4_mostAlike_24 : decode cX4_mostAlike 24 = .ok (.iload 5, 2) := by decide +kernel
theorem dX4_mostAlike_26 : decode cX4_mostAlike 26 = .ok (.aaload, 1) := by decide +kernel
theorem dX4_mostAlike_27 : decode cX4_mostAlike 27 = .ok (.getfield 43, 3) := by decide +kernel
theorem dX4_mostAlike_30 : decode cX4_mostAlike 30 = .ok (.lload_n 2, 1) := by decide +kernel
theorem dX4_mostAlike_31 : decode cX4_mostAlike 31 = .ok (.invokestatic 46, 3) := by decide +kernel
theorem dX4_mostAlike_34 : decode cX4_mostAlike 34 = .ok (.invokestatic 50, 3) := by decide +kernel
theorem dX4_mostAlike_37 : decode cX4_mostAlike 37 = .ok (.istore 4, 2) := by decide +kernel
theorem dX4_mostAlike_39 : decode cX4_mostAlike 39 = .ok (.iinc 5 1, 3) := by decide +kernel
theorem dX4_mostAlike_42 : decode cX4_mostAlike 42 = .ok (.goto (-30), 3) := by decide +kernel
theorem dX4_mostAlike_45 : decode cX4_mostAlike 45 = .ok (.iload 4, 2) := by decide +kernel
theorem dX4_mostAlike_47 : decode cX4_mostAlike 47 = .ok (.ireturn, 1) := by decide +kernel
theorem dX4_votesOf_0 : decode cX4_votesOf 0 = .ok (.lconst 0, 1) := by decide +kernel
theorem dX4_votesOf_1 : decode cX4_votesOf 1 = .ok (.lstore_n 2, 1) := by decide +kernel
theorem dX4_votesOf_2 : decode cX4_votesOf 2 = .ok (.iconst 0, 1) := by decide +kernel
theorem dX4_votesOf_3 : decode cX4_votesOf 3 = .ok (.istore 4, 2) := by decide +kernel
theorem dX4_votesOf_5 : decode cX4_votesOf 5 = .ok (.iload 4, 2) := by decide +kernel
theorem dX4_votesOf_7 : decode cX4_votesOf 7 = .ok (.iload_n 1, 1) := by decide +kernel
theorem dX4_votesOf_8 : decode cX4_votesOf 8 = .ok (.if_icmp .ge 26, 3) := by decide +kernel
theorem dX4_votesOf_11 : decode cX4_votesOf 11 = .ok (.lload_n 2, 1) := by decide +kernel
theorem dX4_votesOf_12 : decode cX4_votesOf 12 = .ok (.lconst 1, 1) := by decide +kernel
theorem dX4_votesOf_13 : decode cX4_votesOf 13 = .ok (.iconst 4, 1) := by decide +kernel
theorem dX4_votesOf_14 : decode cX4_votesOf 14 = .ok (.aload_n 0, 1) := by decide +kernel
theorem dX4_votesOf_15 : decode cX4_votesOf 15 = .ok (.getfield 11, 3) := by decide +kernel
theorem dX4_votesOf_18 : decode cX4_votesOf 18 = .ok (.iload 4, 2) := by decide +kernel
theorem dX4_votesOf_20 : decode cX4_votesOf 20 = .ok (.aaload, 1) := by decide +kernel
theorem dX4_votesOf_21 : decode cX4_votesOf 21 = .ok (.getfield 43, 3) := by decide +kernel
theorem dX4_votesOf_24 : decode cX4_votesOf 24 = .ok (.imul, 1) := by decide +kernel
theorem dX4_votesOf_25 : decode cX4_votesOf 25 = .ok (.lshl, 1) := by decide +kernel
theorem dX4_votesOf_26 : decode cX4_votesOf 26 = .ok (.ladd, 1) := by decide +kernel
theorem dX4_votesOf_27 : decode cX4_votesOf 27 = .ok (.lstore_n 2, 1) := by decide +kernel
theorem dX4_votesOf_28 : decode cX4_votesOf 28 = .ok (.iinc 4 1, 3) := by decide +kernel
theorem dX4_votesOf_31 : decode cX4_votesOf 31 = .ok (.goto (-26), 3) := by decide +kernel
theorem dX4_votesOf_34 : decode cX4_votesOf 34 = .ok (.lload_n 2, 1) := by decide +kernel
theorem dX4_votesOf_35 : decode cX4_votesOf 35 = .ok (.lreturn, 1) := by decide +kernel
theorem dX4_votesFor_0 : decode cX4_votesFor 0 = .ok (.lload_n 1, 1) := by decide +kernel
theorem dX4_votesFor_1 : decode cX4_votesFor 1 = .ok (.iconst 4, 1) := by decide +kernel
theorem dX4_votesFor_2 : decode cX4_votesFor 2 = .ok (.iload_n 0, 1) := by decide +kernel
theorem dX4_votesFor_3 : decode cX4_votesFor 3 = .ok (.imul, 1) := by decide +kernel
theorem dX4_votesFor_4 : decode cX4_votesFor 4 = .ok (.lshr, 1) := by decide +kernel
theorem dX4_votesFor_5 : decode cX4_votesFor 5 = .ok (.l2i, 1) := by decide +kernel
theorem dX4_votesFor_6 : decode cX4_votesFor 6 = .ok (.bipush 15, 2) := by decide +kernel
theorem dX4_votesFor_8 : decode cX4_votesFor 8 = .ok (.iand, 1) := by decide +kernel
theorem dX4_votesFor_9 : decode cX4_votesFor 9 = .ok (.ireturn, 1) := by decide +kernel
theorem dX4_unlikeTwos_0 : decode cX4_unlikeTwos 0 = .ok (.iconst 0, 1) := by decide +kernel
theorem dX4_unlikeTwos_1 : decode cX4_unlikeTwos 1 = .ok (.istore_n 2, 1) := by decide +kernel
theorem dX4_unlikeTwos_2 : decode cX4_unlikeTwos 2 = .ok (.iconst 0, 1) := by decide +kernel
theorem dX4_unlikeTwos_3 : decode cX4_unlikeTwos 3 = .ok (.istore_n 3, 1) := by decide +kernel
theorem dX4_unlikeTwos_4 : decode cX4_unlikeTwos 4 = .ok (.iload_n 3, 1) := by decide +kernel
theorem dX4_unlikeTwos_5 : decode cX4_unlikeTwos 5 = .ok (.iload_n 1, 1) := by decide +kernel
theorem dX4_unlikeTwos_6 : decode cX4_unlikeTwos 6 = .ok (.if_icmp .ge 51, 3) := by decide +kernel
theorem dX4_unlikeTwos_9 : decode cX4_unlikeTwos 9 = .ok (.iload_n 3, 1) := by decide +kernel
theorem dX4_unlikeTwos_10 : decode cX4_unlikeTwos 10 = .ok (.iconst 1, 1) := by decide +kernel
theorem dX4_unlikeTwos_11 : decode cX4_unlikeTwos 11 = .ok (.iadd, 1) := by decide +kernel
theorem dX4_unlikeTwos_12 : decode cX4_unlikeTwos 12 = .ok (.istore 4, 2) := by decide +kernel
theorem dX4_unlikeTwos_14 : decode cX4_unlikeTwos 14 = .ok (.iload 4, 2) := by decide +kernel
theorem dX4_unlikeTwos_16 : decode cX4_unlikeTwos 16 = .ok (.iload_n 1, 1) := by decide +kernel
theorem dX4_unlikeTwos_17 : decode cX4_unlikeTwos 17 = .ok (.if_icmp .ge 34, 3) := by decide +kernel
theorem dX4_unlikeTwos_20 : decode cX4_unlikeTwos 20 = .ok (.aload_n 0, 1) := by decide +kernel
theorem dX4_unlikeTwos_21 : decode cX4_unlikeTwos 21 = .ok (.getfield 11, 3) := by decide +kernel
theorem dX4_unlikeTwos_24 : decode cX4_unlikeTwos 24 = .ok (.iload 4, 2) := by decide +kernel
theorem dX4_unlikeTwos_26 : decode cX4_unlikeTwos 26 = .ok (.aaload, 1) := by decide +kernel
theorem dX4_unlikeTwos_27 : decode cX4_unlikeTwos 27 = .ok (.getfield 43, 3) := by decide +kernel
theorem dX4_unlikeTwos_30 : decode cX4_unlikeTwos 30 = .ok (.aload_n 0, 1) := by decide +kernel
theorem dX4_unlikeTwos_31 : decode cX4_unlikeTwos 31 = .ok (.getfield 11, 3) := by decide +kernel
theorem dX4_unlikeTwos_34 : decode cX4_unlikeTwos 34 = .ok (.iload_n 3, 1) := by decide +kernel
theorem dX4_unlikeTwos_35 : decode cX4_unlikeTwos 35 = .ok (.aaload, 1) := by decide +kernel
theorem dX4_unlikeTwos_36 : decode cX4_unlikeTwos 36 = .ok (.getfield 43, 3) := by decide +kernel
theorem dX4_unlikeTwos_39 : decode cX4_unlikeTwos 39 = .ok (.if_icmp .eq 6, 3) := by decide +kernel
theorem dX4_unlikeTwos_42 : decode cX4_unlikeTwos 42 = .ok (.iinc 2 1, 3) := by decide +kernel
theorem dX4_unlikeTwos_45 : decode cX4_unlikeTwos 45 = .ok (.iinc 4 1, 3) := by decide +kernel
theorem dX4_unlikeTwos_48 : decode cX4_unlikeTwos 48 = .ok (.goto (-34), 3) := by decide +kernel
theorem dX4_unlikeTwos_51 : decode cX4_unlikeTwos 51 = .ok (.iinc 3 1, 3) := by decide +kernel
theorem dX4_unlikeTwos_54 : decode cX4_unlikeTwos 54 = .ok (.goto (-50), 3) := by decide +kernel
theorem dX4_unlikeTwos_57 : decode cX4_unlikeTwos 57 = .ok (.iload_n 2, 1) := by decide +kernel
theorem dX4_unlikeTwos_58 : decode cX4_unlikeTwos 58 = .ok (.ireturn, 1) := by decide +kernel
set_option maxRecDepth 20000 in
theorem ggX4_layOnTop_X0_becomeLike : GoodIn wsX4_layOnTop wsX0_becomeLike := goodIn_r _ [7, 8, 9, 10, 11, 12, 13, 6, 14, 20, 21, 22] (by decide +kernel) (by decide +kernel)
set_option maxRecDepth 20000 in
theorem gX4_layOnTop_X0_becomeLike : GoodIn wsX4_layOnTop (wsV RX4 56 RX0 yX0_becomeLike wsX0_becomeLike) := goodIn_app (goodIn_of _ (by decide +kernel)) ggX4_layOnTop_X0_becomeLike
set_option maxRecDepth 20000 in
theorem ggX4_layOnTop_X0_become : GoodIn wsX4_layOnTop wsX0_become := goodIn_r _ [14, 8, 9, 10, 20, 21, 22] (by decide +kernel) (by decide +kernel)
set_option maxRecDepth 20000 in
theorem gX4_layOnTop_X0_become : GoodIn wsX4_layOnTop (wsV RX4 60 RX0 yX0_become wsX0_become) := goodIn_app (goodIn_of _ (by decide +kernel)) ggX4_layOnTop_X0_become
theorem dX4_layOnTop_0 : decode cX4_layOnTop 0 = .ok (.aload_n 0, 1) := by decide +kernel
theorem dX4_layOnTop_1 : decode cX4_layOnTop 1 = .ok (.getfield 18, 3) := by decide +kernel
theorem dX4_layOnTop_4 : decode cX4_layOnTop 4 = .ok (.bipush 6, 2) := by decide +kernel
theorem dX4_layOnTop_6 : decode cX4_layOnTop 6 = .ok (.if_icmp .lt 5, 3) := by decide +kernel
theorem dX4_layOnTop_9 : decode cX4_layOnTop 9 = .ok (.iconst 0, 1) := by decide +kernel
theorem dX4_layOnTop_10 : decode cX4_layOnTop 10 = .ok (.ireturn, 1) := by decide +kernel
theorem dX4_layOnTop_11 : decode cX4_layOnTop 11 = .ok (.aload_n 0, 1) := by decide +kernel
theorem dX4_layOnTop_12 : decode cX4_layOnTop 12 = .ok (.getfield 18, 3) := by decide +kernel
theorem dX4_layOnTop_15 : decode cX4_layOnTop 15 = .ok (.istore 4, 2) := by decide +kernel
theorem dX4_layOnTop_17 : decode cX4_layOnTop 17 = .ok (.iload 4, 2) := by decide +kernel
theorem dX4_layOnTop_19 : decode cX4_layOnTop 19 = .ok (.ifCond .le 28, 3) := by decide +kernel
theorem dX4_layOnTop_22 : decode cX4_layOnTop 22 = .ok (.aload_n 0, 1) := by decide +kernel
theorem dX4_layOnTop_23 : decode cX4_layOnTop 23 = .ok (.getfield 11, 3) := by decide +kernel
theorem dX4_layOnTop_26 : decode cX4_layOnTop 26 = .ok (.iload 4, 2) := by decide +kernel
theorem dX4_layOnTop_28 : decode cX4_layOnTop 28 = .ok (.aaload, 1) := by decide +kernel
theorem dX4_layOnTop_29 : decode cX4_layOnTop 29 = .ok (.aload_n 0, 1) := by decide +kernel
theorem dX4_layOnTop_30 : decode cX4_layOnTop 30 = .ok (.getfield 11, 3) := by decide +kernel
theorem dX4_layOnTop_33 : decode cX4_layOnTop 33 = .ok (.iload 4, 2) := by decide +kernel
theorem dX4_layOnTop_35 : decode cX4_layOnTop 35 = .ok (.iconst 1, 1) := by decide +kernel
theorem dX4_layOnTop_36 : decode cX4_layOnTop 36 = .ok (.isub, 1) := by decide +kernel
theorem dX4_layOnTop_37 : decode cX4_layOnTop 37 = .ok (.aaload, 1) := by decide +kernel
theorem dX4_layOnTop_38 : decode cX4_layOnTop 38 = .ok (.invokevirtual 56, 3) := by decide +kernel
theorem dX4_layOnTop_41 : decode cX4_layOnTop 41 = .ok (.iinc 4 (-1), 3) := by decide +kernel
theorem dX4_layOnTop_44 : decode cX4_layOnTop 44 = .ok (.goto (-27), 3) := by decide +kernel
theorem dX4_layOnTop_47 : decode cX4_layOnTop 47 = .ok (.aload_n 0, 1) := by decide +kernel
theorem dX4_layOnTop_48 : decode cX4_layOnTop 48 = .ok (.getfield 11, 3) := by decide +kernel
theorem dX4_layOnTop_51 : decode cX4_layOnTop 51 = .ok (.iconst 0, 1) := by decide +kernel
theorem dX4_layOnTop_52 : decode cX4_layOnTop 52 = .ok (.aaload, 1) := by decide +kernel
theorem dX4_layOnTop_53 : decode cX4_layOnTop 53 = .ok (.iload_n 1, 1) := by decide +kernel
theorem dX4_layOnTop_54 : decode cX4_layOnTop 54 = .ok (.iload_n 2, 1) := by decide +kernel
theorem dX4_layOnTop_55 : decode cX4_layOnTop 55 = .ok (.iload_n 3, 1) := by decide +kernel
theorem dX4_layOnTop_56 : decode cX4_layOnTop 56 = .ok (.invokevirtual 60, 3) := by decide +kernel
theorem dX4_layOnTop_59 : decode cX4_layOnTop 59 = .ok (.aload_n 0, 1) := by decide +kernel
theorem dX4_layOnTop_60 : decode cX4_layOnTop 60 = .ok (.dup, 1) := by decide +kernel
theorem dX4_layOnTop_61 : decode cX4_layOnTop 61 = .ok (.getfield 18, 3) := by decide +kernel
theorem dX4_layOnTop_64 : decode cX4_layOnTop 64 = .ok (.iconst 1, 1) := by decide +kernel
theorem dX4_layOnTop_65 : decode cX4_layOnTop 65 = .ok (.iadd, 1) := by decide +kernel
theorem dX4_layOnTop_66 : decode cX4_layOnTop 66 = .ok (.putfield 18, 3) := by decide +kernel
theorem dX4_layOnTop_69 : decode cX4_layOnTop 69 = .ok (.iconst 1, 1) := by decide +kernel
theorem dX4_layOnTop_70 : decode cX4_layOnTop 70 = .ok (.ireturn, 1) := by decide +kernel
set_option maxRecDepth 20000 in
theorem ggX4_peelTop_X4_warmth : GoodIn wsX4_peelTop wsX4_warmth := goodIn_r _ [7, 8, 9, 30, 31, 32, 33] (by decide +kernel) (by decide +kernel)
set_option maxRecDepth 20000 in
theorem gX4_peelTop_X4_warmth : GoodIn wsX4_peelTop (wsV RX4 64 RX4 yX4_warmth wsX4_warmth) := goodIn_app (goodIn_of _ (by decide +kernel)) ggX4_peelTop_X4_warmth
set_option maxRecDepth 20000 in
theorem ggX4_peelTop_X4_liftedBy : GoodIn wsX4_peelTop wsX4_liftedBy := goodIn_r _ [13, 1, 2, 14, 15, 16, 17, 18, 19, 20, 30, 31, 32, 33, 34, 35, 36] (by decide +kernel) (by decide +kernel)
set_option maxRecDepth 20000 in
theorem gX4_peelTop_X4_liftedBy : GoodIn wsX4_peelTop (wsV RX4 67 RX4 yX4_liftedBy wsX4_liftedBy) := goodIn_app (goodIn_of _ (by decide +kernel)) ggX4_peelTop_X4_liftedBy
set_option maxRecDepth 20000 in
theorem ggX4_peelTop_X0_becomeLike : GoodIn wsX4_peelTop wsX0_becomeLike := goodIn_r _ [24, 19, 20, 25, 26, 27, 28, 17, 29, 34, 35, 36] (by decide +kernel) (by decide +kernel)
set_option maxRecDepth 20000 in
theorem gX4_peelTop_X0_becomeLike : GoodIn wsX4_peelTop (wsV RX4 56 RX0 yX0_becomeLike wsX0_becomeLike) := goodIn_app (goodIn_of _ (by decide +kernel)) ggX4_peelTop_X0_becomeLike
theorem dX4_peelTop_0 : decode cX4_peelTop 0 = .ok (.aload_n 0, 1) := by decide +kernel
theorem dX4_peelTop_1 : decode cX4_peelTop 1 = .ok (.getfield 18, 3) := by decide +kernel
theorem dX4_peelTop_4 : decode cX4_peelTop 4 = .ok (.iconst 2, 1) := by decide +kernel
theorem dX4_peelTop_5 : decode cX4_peelTop 5 = .ok (.if_icmp .lt 14, 3) := by decide +kernel
theorem dX4_peelTop_8 : decode cX4_peelTop 8 = .ok (.aload_n 0, 1) := by decide +kernel
theorem dX4_peelTop_9 : decode cX4_peelTop 9 = .ok (.aload_n 0, 1) := by decide +kernel
theorem dX4_peelTop_10 : decode cX4_peelTop 10 = .ok (.invokevirtual 64, 3) := by decide +kernel
theorem dX4_peelTop_13 : decode cX4_peelTop 13 = .ok (.invokevirtual 67, 3) := by decide +kernel
theorem dX4_peelTop_16 : decode cX4_peelTop 16 = .ok (.ifCond .ne 5, 3) := by decide +kernel
theorem dX4_peelTop_19 : decode cX4_peelTop 19 = .ok (.iconst 0, 1) := by decide +kernel
theorem dX4_peelTop_20 : decode cX4_peelTop 20 = .ok (.ireturn, 1) := by decide +kernel
theorem dX4_peelTop_21 : decode cX4_peelTop 21 = .ok (.iconst 1, 1) := by decide +kernel
theorem dX4_peelTop_22 : decode cX4_peelTop 22 = .ok (.istore_n 1, 1) := by decide +kernel
theorem dX4_peelTop_23 : decode cX4_peelTop 23 = .ok (.iload_n 1, 1) := by decide +kernel
theorem dX4_peelTop_24 : decode cX4_peelTop 24 = .ok (.aload_n 0, 1) := by decide +kernel
theorem dX4_peelTop_25 : decode cX4_peelTop 25 = .ok (.getfield 18, 3) := by decide +kernel
theorem dX4_peelTop_28 : decode cX4_peelTop 28 = .ok (.if_icmp .ge 26, 3) := by decide +kernel
theorem dX4_peelTop_31 : decode cX4_peelTop 31 = .ok (.aload_n 0, 1) := by decide +kernel
theorem dX4_peelTop_32 : decode cX4_peelTop 32 = .ok (.getfield 11, 3) := by decide +kernel
theorem dX4_peelTop_35 : decode cX4_peelTop 35 = .ok (.iload_n 1, 1) := by decide +kernel
theorem dX4_peelTop_36 : decode cX4_peelTop 36 = .ok (.iconst 1, 1) := by decide +kernel
theorem dX4_peelTop_37 : decode cX4_peelTop 37 = .ok (.isub, 1) := by decide +kernel
theorem dX4_peelTop_38 : decode cX4_peelTop 38 = .ok (.aaload, 1) := by decide +kernel
theorem dX4_peelTop_39 : decode cX4_peelTop 39 = .ok (.aload_n 0, 1) := by decide +kernel
theorem dX4_peelTop_40 : decode cX4_peelTop 40 = .ok (.getfield 11, 3) := by decide +kernel
theorem dX4_peelTop_43 : decode cX4_peelTop 43 = .ok (.iload_n 1, 1) := by decide +kernel
theorem dX4_peelTop_44 : decode cX4_peelTop 44 = .ok (.aaload, 1) := by decide +kernel
theorem dX4_peelTop_45 : decode cX4_peelTop 45 = .ok (.invokevirtual 56, 3) := by decide +kernel
theorem dX4_peelTop_48 : decode cX4_peelTop 48 = .ok (.iinc 1 1, 3) := by decide +kernel
theorem dX4_peelTop_51 : decode cX4_peelTop 51 = .ok (.goto (-28), 3) := by decide +kernel
theorem dX4_peelTop_54 : decode cX4_peelTop 54 = .ok (.aload_n 0, 1) := by decide +kernel
theorem dX4_peelTop_55 : decode cX4_peelTop 55 = .ok (.dup, 1) := by decide +kernel
theorem dX4_peelTop_56 : decode cX4_peelTop 56 = .ok (.getfield 18, 3) := by decide +kernel
theorem dX4_peelTop_59 : decode cX4_peelTop 59 = .ok (.iconst 1, 1) := by decide +kernel
theorem dX4_peelTop_60 : decode cX4_peelTop 60 = .ok (.isub, 1) := by decide +kernel
theorem dX4_peelTop_61 : decode cX4_peelTop 61 = .ok (.putfield 18, 3) := by decide +kernel
theorem dX4_peelTop_64 : decode cX4_peelTop 64 = .ok (.iconst 1, 1) := by decide +kernel
theorem dX4_peelTop_65 : decode cX4_peelTop 65 = .ok (.ireturn, 1) := by decide +kernel
set_option maxRecDepth 20000 in
theorem ggX4_doAct_X4_peelTop : GoodIn wsX4_doAct wsX4_peelTop := goodIn_r _ [7, 8, 9, 10, 11, 12, 6, 13, 1, 2, 14, 15, 16, 17, 18, 19, 20, 21, 22, 23, 24, 25, 26, 27, 28, 29, 30, 31, 32, 33, 39, 40, 41, 42, 43, 44, 45] (by decide +kernel) (by decide +kernel)
set_option maxRecDepth 20000 in
theorem gX4_doAct_X4_peelTop : GoodIn wsX4_doAct (wsV RX4 70 RX4 yX4_peelTop wsX4_peelTop) := goodIn_app (goodIn_of _ (by decide +kernel)) ggX4_doAct_X4_peelTop
set_option maxRecDepth 20000 in
theorem ggX4_doAct_X4_layOnTop : GoodIn wsX4_doAct wsX4_layOnTop := goodIn_r _ [37, 8, 9, 25, 26, 27, 21, 28, 23, 24, 29, 30, 31, 32, 33, 38, 39, 40, 41, 42, 43, 44, 45] (by decide +kernel) (by decide +kernel)
set_option maxRecDepth 20000 in
theorem gX4_doAct_X4_layOnTop : GoodIn wsX4_doAct (wsV RX4 74 RX4 yX4_layOnTop wsX4_layOnTop) := goodIn_app (goodIn_of _ (by decide +kernel)) ggX4_doAct_X4_layOnTop
theorem dX4_doAct_0 : decode cX4_doAct 0 = .ok (.iload_n 1, 1) := by decide +kernel
theorem dX4_doAct_1 : decode cX4_doAct 1 = .ok (.tableswitch 46 0 2 #[27, 34, 41], 27) := by decide +kernel
theorem dX4_doAct_28 : decode cX4_doAct 28 = .ok (.aload_n 0, 1) := by decide +kernel
theorem dX4_doAct_29 : decode cX4_doAct 29 = .ok (.iload_n 2, 1) := by decide +kernel
theorem dX4_doAct_30 : decode cX4_doAct 30 = .ok (.putfield 22, 3) := by decide +kernel
theorem dX4_doAct_33 : decode cX4_doAct 33 = .ok (.iconst 1, 1) := by decide +kernel
theorem dX4_doAct_34 : decode cX4_doAct 34 = .ok (.ireturn, 1) := by decide +kernel
theorem dX4_doAct_35 : decode cX4_doAct 35 = .ok (.aload_n 0, 1) := by decide +kernel
theorem dX4_doAct_36 : decode cX4_doAct 36 = .ok (.iload_n 2, 1) := by decide +kernel
theorem dX4_doAct_37 : decode cX4_doAct 37 = .ok (.putfield 25, 3) := by decide +kernel
theorem dX4_doAct_40 : decode cX4_doAct 40 = .ok (.iconst 1, 1) := by decide +kernel
theorem dX4_doAct_41 : decode cX4_doAct 41 = .ok (.ireturn, 1) := by decide +kernel
theorem dX4_doAct_42 : decode cX4_doAct 42 = .ok (.aload_n 0, 1) := by decide +kernel
theorem dX4_doAct_43 : decode cX4_doAct 43 = .ok (.invokevirtual 70, 3) := by decide +kernel
theorem dX4_doAct_46 : decode cX4_doAct 46 = .ok (.ireturn, 1) := by decide +kernel
theorem dX4_doAct_47 : decode cX4_doAct 47 = .ok (.aload_n 0, 1) := by decide +kernel
theorem dX4_doAct_48 : decode cX4_doAct 48 = .ok (.iconst 0, 1) := by decide +kernel
theorem dX4_doAct_49 : decode cX4_doAct 49 = .ok (.iload_n 2, 1) := by decide +kernel
theorem dX4_doAct_50 : decode cX4_doAct 50 = .ok (.iload_n 2, 1) := by decide +kernel
theorem dX4_doAct_51 : decode cX4_doAct 51 = .ok (.invokevirtual 74, 3) := by decide +kernel
theorem dX4_doAct_54 : decode cX4_doAct 54 = .ok (.ireturn, 1) := by decide +kernel
set_option maxRecDepth 20000 in
theorem ggX4_change_X4_layerAt : GoodIn wsX4_change wsX4_layerAt := goodIn_r _ [8, 9, 10, 14, 15, 16, 17] (by decide +kernel) (by decide +kernel)
set_option maxRecDepth 20000 in
theorem gX4_change_X4_layerAt : GoodIn wsX4_change (wsV RX4 78 RX4 yX4_layerAt wsX4_layerAt) := goodIn_app (goodIn_of _ (by decide +kernel)) ggX4_change_X4_layerAt
theorem dX4_change_0 : decode cX4_change 0 = .ok (.aload_n 0, 1) := by decide +kernel
theorem dX4_change_1 : decode cX4_change 1 = .ok (.iload_n 1, 1) := by decide +kernel
theorem dX4_change_2 : decode cX4_change 2 = .ok (.invokevirtual 78, 3) := by decide +kernel
theorem dX4_change_5 : decode cX4_change 5 = .ok (.astore 4, 2) := by decide +kernel
theorem dX4_change_7 : decode cX4_change 7 = .ok (.aload 4, 2) := by decide +kernel
theorem dX4_change_9 : decode cX4_change 9 = .ok (.ifnonnull 4, 3) := by decide +kernel
theorem dX4_change_12 : decode cX4_change 12 = .ok (.return_, 1) := by decide +kernel
theorem dX4_change_13 : decode cX4_change 13 = .ok (.iload_n 2, 1) := by decide +kernel
theorem dX4_change_14 : decode cX4_change 14 = .ok (.lookupswitch 44 #[(0, 26), (1, 35)], 26) := by decide +kernel
theorem dX4_change_40 : decode cX4_change 40 = .ok (.aload 4, 2) := by decide +kernel
theorem dX4_change_42 : decode cX4_change 42 = .ok (.iload_n 3, 1) := by decide +kernel
theorem dX4_change_43 : decode cX4_change 43 = .ok (.putfield 32, 3) := by decide +kernel
theorem dX4_change_46 : decode cX4_change 46 = .ok (.goto 18, 3) := by decide +kernel
theorem dX4_change_49 : decode cX4_change 49 = .ok (.aload 4, 2) := by decide +kernel
theorem dX4_change_51 : decode cX4_change 51 = .ok (.iload_n 3, 1) := by decide +kernel
theorem dX4_change_52 : decode cX4_change 52 = .ok (.putfield 82, 3) := by decide +kernel
theorem dX4_change_55 : decode cX4_change 55 = .ok (.goto 9, 3) := by decide +kernel
theorem dX4_change_58 : decode cX4_change 58 = .ok (.aload 4, 2) := by decide +kernel
theorem dX4_change_60 : decode cX4_change 60 = .ok (.iload_n 3, 1) := by decide +kernel
theorem dX4_change_61 : decode cX4_change 61 = .ok (.putfield 43, 3) := by decide +kernel
theorem dX4_change_64 : decode cX4_change 64 = .ok (.return_, 1) := by decide +kernel
set_option maxRecDepth 20000 in
theorem ggX4_readText_X4_digitAt : GoodIn wsX4_readText wsX4_digitAt := goodIn_r _ [4, 5, 6, 7, 8, 9, 10, 11, 35, 36, 37, 38] (by decide +kernel) (by decide +kernel)
set_option maxRecDepth 20000 in
theorem gX4_readText_X4_digitAt : GoodIn wsX4_readText (va_wsS RX4 85 yX4_digitAt wsX4_digitAt) := goodIn_app (goodIn_of _ (by decide +kernel)) ggX4_readText_X4_digitAt
set_option maxRecDepth 20000 in
theorem ggX4_readText_X4_begin : GoodIn wsX4_readText wsX4_begin := goodIn_r _ [15, 16, 17, 18, 39, 40, 41, 42] (by decide +kernel) (by decide +kernel)
set_option maxRecDepth 20000 in
theorem gX4_readText_X4_begin : GoodIn wsX4_readText (wsV RX4 89 RX4 yX4_begin wsX4_begin) := goodIn_app (goodIn_of _ (by decide +kernel)) ggX4_readText_X4_begin
set_option maxRecDepth 20000 in
theorem ggX4_readText_X3_getCell : GoodIn wsX4_readText wsX3_getCell := goodIn_r _ [9, 10, 11, 35, 36, 37, 38] (by decide +kernel) (by decide +kernel)
set_option maxRecDepth 20000 in
theorem gX4_readText_X3_getCell : GoodIn wsX4_readText (wsV RX4 93 RX3 yX3_getCell wsX3_getCell) := goodIn_app (goodIn_of _ (by decide +kernel)) ggX4_readText_X3_getCell
set_option maxRecDepth 20000 in
theorem ggX4_readText_X5_kindOf : GoodIn wsX4_readText wsX5_kindOf := goodIn_r _ [21] (by decide +kernel) (by decide +kernel)
set_option maxRecDepth 20000 in
theorem gX4_readText_X5_kindOf_n98 : GoodIn wsX4_readText (wsX5_kindOf) := ggX4_readText_X5_kindOf
set_option maxRecDepth 20000 in
theorem ggX4_readText_X4_addBelow : GoodIn wsX4_readText wsX4_addBelow := goodIn_r _ [25, 16, 26, 27, 28, 29, 30, 31, 32, 33, 34, 39, 40, 41, 42, 43, 44, 45] (by decide +kernel) (by decide +kernel)
set_option maxRecDepth 20000 in
theorem gX4_readText_X4_addBelow : GoodIn wsX4_readText (wsV RX4 101 RX4 yX4_addBelow wsX4_addBelow) := goodIn_app (goodIn_of _ (by decide +kernel)) ggX4_readText_X4_addBelow
theorem dX4_readText_0 : decode cX4_readText 0 = .ok (.aload_n 0, 1) := by decide +kernel
theorem dX4_readText_1 : decode cX4_readText 1 = .ok (.aload_n 1, 1) := by decide +kernel
theorem dX4_readText_2 : decode cX4_readText 2 = .ok (.iload_n 2, 1) := by decide +kernel
theorem dX4_readText_3 : decode cX4_readText 3 = .ok (.iconst 1, 1) := by decide +kernel
theorem dX4_readText_4 : decode cX4_readText 4 = .ok (.iadd, 1) := by decide +kernel
theorem dX4_readText_5 : decode cX4_readText 5 = .ok (.invokestatic 85, 3) := by decide +kernel
theorem dX4_readText_8 : decode cX4_readText 8 = .ok (.aload_n 1, 1) := by decide +kernel
theorem dX4_readText_9 : decode cX4_readText 9 = .ok (.iload_n 2, 1) := by decide +kernel
theorem dX4_readText_10 : decode cX4_readText 10 = .ok (.iconst 2, 1) := by decide +kernel
theorem dX4_readText_11 : decode cX4_readText 11 = .ok (.iadd, 1) := by decide +kernel
theorem dX4_readText_12 : decode cX4_readText 12 = .ok (.invokestatic 85, 3) := by decide +kernel
theorem dX4_readText_15 : decode cX4_readText 15 = .ok (.invokevirtual 89, 3) := by decide +kernel
theorem dX4_readText_18 : decode cX4_readText 18 = .ok (.iload_n 2, 1) := by decide +kernel
theorem dX4_readText_19 : decode cX4_readText 19 = .ok (.iconst 3, 1) := by decide +kernel
theorem dX4_readText_20 : decode cX4_readText 20 = .ok (.iadd, 1) := by decide +kernel
theorem dX4_readText_21 : decode cX4_readText 21 = .ok (.istore 4, 2) := by decide +kernel
theorem dX4_readText_23 : decode cX4_readText 23 = .ok (.iload 4, 2) := by decide +kernel
theorem dX4_readText_25 : decode cX4_readText 25 = .ok (.iload_n 2, 1) := by decide +kernel
theorem dX4_readText_26 : decode cX4_readText 26 = .ok (.iload_n 3, 1) := by decide +kernel
theorem dX4_readText_27 : decode cX4_readText 27 = .ok (.iadd, 1) := by decide +kernel
theorem dX4_readText_28 : decode cX4_readText 28 = .ok (.iconst 4, 1) := by decide +kernel
theorem dX4_readText_29 : decode cX4_readText 29 = .ok (.isub, 1) := by decide +kernel
theorem dX4_readText_30 : decode cX4_readText 30 = .ok (.if_icmp .gt 40, 3) := by decide +kernel
theorem dX4_readText_33 : decode cX4_readText 33 = .ok (.aload_n 0, 1) := by decide +kernel
theorem dX4_readText_34 : decode cX4_readText 34 = .ok (.aload_n 1, 1) := by decide +kernel
theorem dX4_readText_35 : decode cX4_readText 35 = .ok (.iload 4, 2) := by decide +kernel
theorem dX4_readText_37 : decode cX4_readText 37 = .ok (.iconst 1, 1) := by decide +kernel
theorem dX4_readText_38 : decode cX4_readText 38 = .ok (.iadd, 1) := by decide +kernel
theorem dX4_readText_39 : decode cX4_readText 39 = .ok (.invokevirtual 93, 3) := by decide +kernel
theorem dX4_readText_42 : decode cX4_readText 42 = .ok (.invokestatic 98, 3) := by decide +kernel
theorem dX4_readText_45 : decode cX4_readText 45 = .ok (.aload_n 1, 1) := by decide +kernel
theorem dX4_readText_46 : decode cX4_readText 46 = .ok (.iload 4, 2) := by decide +kernel
theorem dX4_readText_48 : decode cX4_readText 48 = .ok (.iconst 2, 1) := by decide +kernel
theorem dX4_readText_49 : decode cX4_readText 49 = .ok (.iadd, 1) := by decide +kernel
theorem dX4_readText_50 : decode cX4_readText 50 = .ok (.invokestatic 85, 3) := by decide +kernel
theorem dX4_readText_53 : decode cX4_readText 53 = .ok (.aload_n 1, 1) := by decide +kernel
theorem dX4_readText_54 : decode cX4_readText 54 = .ok (.iload 4, 2) := by decide +kernel
theorem dX4_readText_56 : decode cX4_readText 56 = .ok (.iconst 3, 1) := by decide +kernel
theorem dX4_readText_57 : decode cX4_readText 57 = .ok (.iadd, 1) := by decide +kernel
theorem dX4_readText_58 : decode cX4_readText 58 = .ok (.invokestatic 85, 3) := by decide +kernel
theorem dX4_readText_61 : decode cX4_readText 61 = .ok (.invokevirtual 101, 3) := by decide +kernel
theorem dX4_readText_64 : decode cX4_readText 64 = .ok (.iinc 4 4, 3) := by decide +kernel
theorem dX4_readText_67 : decode cX4_readText 67 = .ok (.goto (-44), 3) := by decide +kernel
theorem dX4_readText_70 : decode cX4_readText 70 = .ok (.return_, 1) := by decide +kernel
set_option maxRecDepth 20000 in
theorem ggX4_digitAt_X3_getCell : GoodIn wsX4_digitAt wsX3_getCell := goodIn_r _ [5, 6, 7, 8, 9, 10, 11] (by decide +kernel) (by decide +kernel)
set_option maxRecDepth 20000 in
theorem gX4_digitAt_X3_getCell : GoodIn wsX4_digitAt (wsV RX4 93 RX3 yX3_getCell wsX3_getCell) := goodIn_app (goodIn_of _ (by decide +kernel)) ggX4_digitAt_X3_getCell
theorem dX4_digitAt_0 : decode cX4_digitAt 0 = .ok (.aload_n 0, 1) := by decide +kernel
theorem dX4_digitAt_1 : decode cX4_digitAt 1 = .ok (.iload_n 1, 1) := by decide +kernel
theorem dX4_digitAt_2 : decode cX4_digitAt 2 = .ok (.invokevirtual 93, 3) := by decide +kernel
theorem dX4_digitAt_5 : decode cX4_digitAt 5 = .ok (.bipush 48, 2) := by decide +kernel
theorem dX4_digitAt_7 : decode cX4_digitAt 7 = .ok (.isub, 1) := by decide +kernel
theorem dX4_digitAt_8 : decode cX4_digitAt 8 = .ok (.ireturn, 1) := by decide +kernel
theorem dX4_begin_0 : decode cX4_begin 0 = .ok (.aload_n 0, 1) := by decide +kernel
theorem dX4_begin_1 : decode cX4_begin 1 = .ok (.iconst 0, 1) := by decide +kernel
theorem dX4_begin_2 : decode cX4_begin 2 = .ok (.putfield 18, 3) := by decide +kernel
theorem dX4_begin_5 : decode cX4_begin 5 = .ok (.aload_n 0, 1) := by decide +kernel
theorem dX4_begin_6 : decode cX4_begin 6 = .ok (.iload_n 1, 1) := by decide +kernel
theorem dX4_begin_7 : decode cX4_begin 7 = .ok (.putfield 22, 3) := by decide +kernel
theorem dX4_begin_10 : decode cX4_begin 10 = .ok (.aload_n 0, 1) := by decide +kernel
theorem dX4_begin_11 : decode cX4_begin 11 = .ok (.iload_n 2, 1) := by decide +kernel
theorem dX4_begin_12 : decode cX4_begin 12 = .ok (.putfield 25, 3) := by decide +kernel
theorem dX4_begin_15 : decode cX4_begin 15 = .ok (.return_, 1) := by decide +kernel
set_option maxRecDepth 20000 in
theorem ggX4_addBelow_X0_become : GoodIn wsX4_addBelow wsX0_become := goodIn_r _ [7, 8, 9, 10, 15, 16, 17] (by decide +kernel) (by decide +kernel)
set_option maxRecDepth 20000 in
theorem gX4_addBelow_X0_become : GoodIn wsX4_addBelow (wsV RX4 60 RX0 yX0_become wsX0_become) := goodIn_app (goodIn_of _ (by decide +kernel)) ggX4_addBelow_X0_become
theorem dX4_addBelow_0 : decode cX4_addBelow 0 = .ok (.aload_n 0, 1) := by decide +kernel
theorem dX4_addBelow_1 : decode cX4_addBelow 1 = .ok (.getfield 18, 3) := by decide +kernel
theorem dX4_addBelow_4 : decode cX4_addBelow 4 = .ok (.bipush 6, 2) := by decide +kernel
theorem dX4_addBelow_6 : decode cX4_addBelow 6 = .ok (.if_icmp .ge 28, 3) := by decide +kernel
theorem dX4_addBelow_9 : decode cX4_addBelow 9 = .ok (.aload_n 0, 1) := by decide +kernel
theorem dX4_addBelow_10 : decode cX4_addBelow 10 = .ok (.getfield 11, 3) := by decide +kernel
theorem dX4_addBelow_13 : decode cX4_addBelow 13 = .ok (.aload_n 0, 1) := by decide +kernel
theorem dX4_addBelow_14 : decode cX4_addBelow 14 = .ok (.getfield 18, 3) := by decide +kernel
theorem dX4_addBelow_17 : decode cX4_addBelow 17 = .ok (.aaload, 1) := by decide +kernel
theorem dX4_addBelow_18 : decode cX4_addBelow 18 = .ok (.iload_n 1, 1) := by decide +kernel
theorem dX4_addBelow_19 : decode cX4_addBelow 19 = .ok (.iload_n 2, 1) := by decide +kernel
theorem dX4_addBelow_20 : decode cX4_addBelow 20 = .ok (.iload_n 3, 1) := by decide +kernel
theorem dX4_addBelow_21 : decode cX4_addBelow 21 = .ok (.invokevirtual 60, 3) := by decide +kernel
theorem dX4_addBelow_24 : decode cX4_addBelow 24 = .ok (.aload_n 0, 1) := by decide +kernel
theorem dX4_addBelow_25 : decode cX4_addBelow 25 = .ok (.dup, 1) := by decide +kernel
theorem dX4_addBelow_26 : decode cX4_addBelow 26 = .ok (.getfield 18, 3) := by decide +kernel
theorem dX4_addBelow_29 : decode cX4_addBelow 29 = .ok (.iconst 1, 1) := by decide +kernel
theorem dX4_addBelow_30 : decode cX4_addBelow 30 = .ok (.iadd, 1) := by decide +kernel
theorem dX4_addBelow_31 : decode cX4_addBelow 31 = .ok (.putfield 18, 3) := by decide +kernel
theorem dX4_addBelow_34 : decode cX4_addBelow 34 = .ok (.return_, 1) := by decide +kernel
set_option maxRecDepth 20000 in
theorem ggX4_addLike_X4_addBelow : GoodIn wsX4_addLike wsX4_addBelow := goodIn_r _ [8, 9, 10, 11, 12, 13, 14, 15, 16, 17, 18, 22, 23, 24, 25, 19, 20, 21] (by decide +kernel) (by decide +kernel)
set_option maxRecDepth 20000 in
theorem gX4_addLike_X4_addBelow : GoodIn wsX4_addLike (wsV RX4 101 RX4 yX4_addBelow wsX4_addBelow) := goodIn_app (goodIn_of _ (by decide +kernel)) ggX4_addLike_X4_addBelow
theorem dX4_addLike_0 : decode cX4_addLike 0 = .ok (.aload_n 1, 1) := by decide +kernel
theorem dX4_addLike_1 : decode cX4_addLike 1 = .ok (.ifnull 19, 3) := by decide +kernel
theorem dX4_addLike_4 : decode cX4_addLike 4 = .ok (.aload_n 0, 1) := by decide +kernel
theorem dX4_addLike_5 : decode cX4_addLike 5 = .ok (.aload_n 1, 1) := by decide +kernel
theorem dX4_addLike_6 : decode cX4_addLike 6 = .ok (.getfield 32, 3) := by decide +kernel
theorem dX4_addLike_9 : decode cX4_addLike 9 = .ok (.aload_n 1, 1) := by decide +kernel
theorem dX4_addLike_10 : decode cX4_addLike 10 = .ok (.getfield 82, 3) := by decide +kernel
theorem dX4_addLike_13 : decode cX4_addLike 13 = .ok (.aload_n 1, 1) := by decide +kernel
theorem dX4_addLike_14 : decode cX4_addLike 14 = .ok (.getfield 43, 3) := by decide +kernel
theorem dX4_addLike_17 : decode cX4_addLike 17 = .ok (.invokevirtual 101, 3) := by decide +kernel
theorem dX4_addLike_20 : decode cX4_addLike 20 = .ok (.return_, 1) := by decide +kernel
set_option maxRecDepth 20000 in
theorem ggX4_become_X4_becomeLess : GoodIn wsX4_become wsX4_becomeLess := goodIn_r _ [5, 6, 7, 8, 9, 10, 11, 4, 12, 13, 14, 15, 16, 17, 18, 19, 20, 21, 22, 23, 24, 25, 26, 27, 28, 29, 30, 31, 32, 33, 34, 35, 36, 37, 38, 39, 40, 41, 42, 43] (by decide +kernel) (by decide +kernel)
set_option maxRecDepth 20000 in
theorem gX4_become_X4_becomeLess : GoodIn wsX4_become (wsV RX4 104 RX4 yX4_becomeLess wsX4_becomeLess) := goodIn_app (goodIn_of _ (by decide +kernel)) ggX4_become_X4_becomeLess
theorem dX4_become_0 : decode cX4_become 0 = .ok (.aload_n 0, 1) := by decide +kernel
theorem dX4_become_1 : decode cX4_become 1 = .ok (.aload_n 1, 1) := by decide +kernel
theorem dX4_become_2 : decode cX4_become 2 = .ok (.iconst 0, 1) := by decide +kernel
theorem dX4_become_3 : decode cX4_become 3 = .ok (.invokevirtual 104, 3) := by decide +kernel
theorem dX4_become_6 : decode cX4_become 6 = .ok (.return_, 1) := by decide +kernel
set_option maxRecDepth 20000 in
theorem ggX4_becomeLess_X4_begin : GoodIn wsX4_becomeLess wsX4_begin := goodIn_r _ [8, 3, 1, 2, 33, 34, 35, 36] (by decide +kernel) (by decide +kernel)
set_option maxRecDepth 20000 in
theorem gX4_becomeLess_X4_begin : GoodIn wsX4_becomeLess (wsV RX4 89 RX4 yX4_begin wsX4_begin) := goodIn_app (goodIn_of _ (by decide +kernel)) ggX4_becomeLess_X4_begin
set_option maxRecDepth 20000 in
theorem ggX4_becomeLess_X4_layerAt : GoodIn wsX4_becomeLess wsX4_layerAt := goodIn_r _ [12, 3, 13, 33, 34, 35, 36] (by decide +kernel) (by decide +kernel)
set_option maxRecDepth 20000 in
theorem gX4_becomeLess_X4_layerAt : GoodIn wsX4_becomeLess (wsV RX4 78 RX4 yX4_layerAt wsX4_layerAt) := goodIn_app (goodIn_of _ (by decide +kernel)) ggX4_becomeLess_X4_layerAt
set_option maxRecDepth 20000 in
theorem ggX4_becomeLess_X4_addLike : GoodIn wsX4_becomeLess wsX4_addLike := goodIn_r _ [17, 18, 19, 20, 21, 22, 23, 7, 24, 3, 13, 25, 26, 27, 28, 29, 30, 31, 32, 37, 38, 39, 33, 34, 35, 36] (by decide +kernel) (by decide +kernel)
set_option maxRecDepth 20000 in
theorem gX4_becomeLess_X4_addLike : GoodIn wsX4_becomeLess (wsV RX4 108 RX4 yX4_addLike wsX4_addLike) := goodIn_app (goodIn_of _ (by decide +kernel)) ggX4_becomeLess_X4_addLike
theorem dX4_becomeLess_0 : decode cX4_becomeLess 0 = .ok (.aload_n 0, 1) := by decide +kernel
theorem dX4_becomeLess_1 : decode cX4_becomeLess 1 = .ok (.aload_n 1, 1) := by decide +kernel
theorem dX4_becomeLess_2 : decode cX4_becomeLess 2 = .ok (.getfield 22, 3) := by decide +kernel
theorem dX4_becomeLess_5 : decode cX4_becomeLess 5 = .ok (.aload_n 1, 1) := by decide +kernel
theorem dX4_becomeLess_6 : decode cX4_becomeLess 6 = .ok (.getfield 25, 3) := by decide +kernel
theorem dX4_becomeLess_9 : decode cX4_becomeLess 9 = .ok (.invokevirtual 89, 3) := by decide +kernel
theorem dX4_becomeLess_12 : decode cX4_becomeLess 12 = .ok (.iconst 0, 1) := by decide +kernel
theorem dX4_becomeLess_13 : decode cX4_becomeLess 13 = .ok (.istore_n 3, 1) := by decide +kernel
theorem dX4_becomeLess_14 : decode cX4_becomeLess 14 = .ok (.iload_n 3, 1) := by decide +kernel
theorem dX4_becomeLess_15 : decode cX4_becomeLess 15 = .ok (.aload_n 1, 1) := by decide +kernel
theorem dX4_becomeLess_16 : decode cX4_becomeLess 16 = .ok (.getfield 18, 3) := by decide +kernel
theorem dX4_becomeLess_19 : decode cX4_becomeLess 19 = .ok (.if_icmp .ge 26, 3) := by decide +kernel
theorem dX4_becomeLess_22 : decode cX4_becomeLess 22 = .ok (.iload_n 2, 1) := by decide +kernel
theorem dX4_becomeLess_23 : decode cX4_becomeLess 23 = .ok (.iconst 1, 1) := by decide +kernel
theorem dX4_becomeLess_24 : decode cX4_becomeLess 24 = .ok (.iload_n 3, 1) := by decide +kernel
theorem dX4_becomeLess_25 : decode cX4_becomeLess 25 = .ok (.ishl, 1) := by decide +kernel
theorem dX4_becomeLess_26 : decode cX4_becomeLess 26 = .ok (.iand, 1) := by decide +kernel
theorem dX4_becomeLess_27 : decode cX4_becomeLess 27 = .ok (.ifCond .ne 12, 3) := by decide +kernel
theorem dX4_becomeLess_30 : decode cX4_becomeLess 30 = .ok (.aload_n 0, 1) := by decide +kernel
theorem dX4_becomeLess_31 : decode cX4_becomeLess 31 = .ok (.aload_n 1, 1) := by decide +kernel
theorem dX4_becomeLess_32 : decode cX4_becomeLess 32 = .ok (.iload_n 3, 1) := by decide +kernel
theorem dX4_becomeLess_33 : decode cX4_becomeLess 33 = .ok (.invokevirtual 78, 3) := by decide +kernel
theorem dX4_becomeLess_36 : decode cX4_becomeLess 36 = .ok (.invokevirtual 108, 3) := by decide +kernel
theorem dX4_becomeLess_39 : decode cX4_becomeLess 39 = .ok (.iinc 3 1, 3) := by decide +kernel
theorem dX4_becomeLess_42 : decode cX4_becomeLess 42 = .ok (.goto (-28), 3) := by decide +kernel
theorem dX4_becomeLess_45 : decode cX4_becomeLess 45 = .ok (.return_, 1) := by decide +kernel
set_option maxRecDepth 20000 in
theorem ggX4_becomeOrdered_X4_begin : GoodIn wsX4_becomeOrdered wsX4_begin := goodIn_r _ [8, 3, 1, 2, 40, 41, 42, 43] (by decide +kernel) (by decide +kernel)
set_option maxRecDepth 20000 in
theorem gX4_becomeOrdered_X4_begin : GoodIn wsX4_becomeOrdered (wsV RX4 89 RX4 yX4_begin wsX4_begin) := goodIn_app (goodIn_of _ (by decide +kernel)) ggX4_becomeOrdered_X4_begin
set_option maxRecDepth 20000 in
theorem ggX4_becomeOrdered_X1_layerIn : GoodIn wsX4_becomeOrdered wsX1_layerIn := goodIn_r _ [13, 14, 15, 44, 45] (by decide +kernel) (by decide +kernel)
set_option maxRecDepth 20000 in
theorem gX4_becomeOrdered_X1_layerIn : GoodIn wsX4_becomeOrdered (wsV RX4 111 RX1 yX1_layerIn wsX1_layerIn) := goodIn_app (goodIn_of _ (by decide +kernel)) ggX4_becomeOrdered_X1_layerIn
set_option maxRecDepth 20000 in
theorem ggX4_becomeOrdered_X4_layerAt : GoodIn wsX4_becomeOrdered wsX4_layerAt := goodIn_r _ [19, 3, 20, 40, 41, 42, 43] (by decide +kernel) (by decide +kernel)
set_option maxRecDepth 20000 in
theorem gX4_becomeOrdered_X4_layerAt : GoodIn wsX4_becomeOrdered (wsV RX4 78 RX4 yX4_layerAt wsX4_layerAt) := goodIn_app (goodIn_of _ (by decide +kernel)) ggX4_becomeOrdered_X4_layerAt
set_option maxRecDepth 20000 in
theorem ggX4_becomeOrdered_X4_addLike : GoodIn wsX4_becomeOrdered wsX4_addLike := goodIn_r _ [24, 25, 26, 27, 28, 29, 30, 7, 31, 3, 20, 32, 33, 34, 35, 36, 37, 38, 39, 46, 47, 48, 40, 41, 42, 43] (by decide +kernel) (by decide +kernel)
set_option maxRecDepth 20000 in
theorem gX4_becomeOrdered_X4_addLike : GoodIn wsX4_becomeOrdered (wsV RX4 108 RX4 yX4_addLike wsX4_addLike) := goodIn_app (goodIn_of _ (by decide +kernel)) ggX4_becomeOrdered_X4_addLike
theorem dX4_becomeOrdered_0 : decode cX4_becomeOrdered 0 = .ok (.aload_n 0, 1) := by decide +kernel
theorem dX4_becomeOrdered_1 : decode cX4_becomeOrdered 1 = .ok (.aload_n 1, 1) := by decide +kernel
theorem dX4_becomeOrdered_2 : decode cX4_becomeOrdered 2 = .ok (.getfield 22, 3) := by decide +kernel
theorem dX4_becomeOrdered_5 : decode cX4_becomeOrdered 5 = .ok (.aload_n 1, 1) := by decide +kernel
theorem dX4_becomeOrdered_6 : decode cX4_becomeOrdered 6 = .ok (.getfield 25, 3) := by decide +kernel
theorem dX4_becomeOrdered_9 : decode cX4_becomeOrdered 9 = .ok (.invokevirtual 89, 3) := by decide +kernel
theorem dX4_becomeOrdered_12 : decode cX4_becomeOrdered 12 = .ok (.iconst 0, 1) := by decide +kernel
theorem dX4_becomeOrdered_13 : decode cX4_becomeOrdered 13 = .ok (.istore_n 3, 1) := by decide +kernel
theorem dX4_becomeOrdered_14 : decode cX4_becomeOrdered 14 = .ok (.iload_n 3, 1) := by decide +kernel
theorem dX4_becomeOrdered_15 : decode cX4_becomeOrdered 15 = .ok (.aload_n 1, 1) := by decide +kernel
theorem dX4_becomeOrdered_16 : decode cX4_becomeOrdered 16 = .ok (.getfield 18, 3) := by decide +kernel
theorem dX4_becomeOrdered_19 : decode cX4_becomeOrdered 19 = .ok (.if_icmp .ge 22, 3) := by decide +kernel
theorem dX4_becomeOrdered_22 : decode cX4_becomeOrdered 22 = .ok (.aload_n 0, 1) := by decide +kernel
theorem dX4_becomeOrdered_23 : decode cX4_becomeOrdered 23 = .ok (.aload_n 1, 1) := by decide +kernel
theorem dX4_becomeOrdered_24 : decode cX4_becomeOrdered 24 = .ok (.aload_n 2, 1) := by decide +kernel
theorem dX4_becomeOrdered_25 : decode cX4_becomeOrdered 25 = .ok (.iload_n 3, 1) := by decide +kernel
theorem dX4_becomeOrdered_26 : decode cX4_becomeOrdered 26 = .ok (.invokevirtual 111, 3) := by decide +kernel
theorem dX4_becomeOrdered_29 : decode cX4_becomeOrdered 29 = .ok (.invokevirtual 78, 3) := by decide +kernel
theorem dX4_becomeOrdered_32 : decode cX4_becomeOrdered 32 = .ok (.invokevirtual 108, 3) := by decide +kernel
theorem dX4_becomeOrdered_35 : decode cX4_becomeOrdered 35 = .ok (.iinc 3 1, 3) := by decide +kernel
theorem dX4_becomeOrdered_38 : decode cX4_becomeOrdered 38 = .ok (.goto (-24), 3) := by decide +kernel
theorem dX4_becomeOrdered_41 : decode cX4_becomeOrdered 41 = .ok (.return_, 1) := by decide +kernel
set_option maxRecDepth 20000 in
theorem ggX5_init_X4_init : GoodIn wsX5_init wsX4_init := goodIn_r _ [23, 24, 2, 3, 25, 26, 27, 28, 29, 30, 31, 46, 47, 48, 49, 66, 67, 68] (by decide +kernel) (by decide +kernel)
set_option maxRecDepth 20000 in
theorem gX5_init_X4_init : GoodIn wsX5_init (wsX4_init) := ggX5_init_X4_init
set_option maxRecDepth 20000 in
theorem ggX5_init_X2_init : GoodIn wsX5_init wsX2_init := goodIn_r _ [33, 34, 2, 3, 35, 36, 37, 57, 58, 59] (by decide +kernel) (by decide +kernel)
set_option maxRecDepth 20000 in
theorem gX5_init_X2_init_n23 : GoodIn wsX5_init (wsX2_init) := ggX5_init_X2_init
set_option maxRecDepth 20000 in
theorem ggX5_init_X1_init : GoodIn wsX5_init wsX1_init := goodIn_r _ [39, 40, 2, 3, 35, 41, 60, 61] (by decide +kernel) (by decide +kernel)
set_option maxRecDepth 20000 in
theorem gX5_init_X1_init_n30 : GoodIn wsX5_init (wsX1_init) := ggX5_init_X1_init
set_option maxRecDepth 20000 in
theorem ggX5_init_X3_init : GoodIn wsX5_init wsX3_init := goodIn_r _ [43, 44, 2, 3, 35, 45, 62, 63, 64, 65] (by decide +kernel) (by decide +kernel)
set_option maxRecDepth 20000 in
theorem gX5_init_X3_init_n41 : GoodIn wsX5_init (wsX3_init) := ggX5_init_X3_init
theorem dX5_init_0 : decode cX5_init 0 = .ok (.aload_n 0, 1) := by decide +kernel
theorem dX5_init_1 : decode cX5_init 1 = .ok (.invokespecial 3, 3) := by decide +kernel
theorem dX5_init_4 : decode cX5_init 4 = .ok (.aload_n 0, 1) := by decide +kernel
theorem dX5_init_5 : decode cX5_init 5 = .ok (.new 9, 3) := by decide +kernel
theorem dX5_init_8 : decode cX5_init 8 = .ok (.dup, 1) := by decide +kernel
theorem dX5_init_9 : decode cX5_init 9 = .ok (.invokespecial 11, 3) := by decide +kernel
theorem dX5_init_12 : decode cX5_init 12 = .ok (.putfield 12, 3) := by decide +kernel
theorem dX5_init_15 : decode cX5_init 15 = .ok (.aload_n 0, 1) := by decide +kernel
theorem dX5_init_16 : decode cX5_init 16 = .ok (.new 9, 3) := by decide +kernel
theorem dX5_init_19 : decode cX5_init 19 = .ok (.dup, 1) := by decide +kernel
theorem dX5_init_20 : decode cX5_init 20 = .ok (.invokespecial 11, 3) := by decide +kernel
theorem dX5_init_23 : decode cX5_init 23 = .ok (.putfield 18, 3) := by decide +kernel
theorem dX5_init_26 : decode cX5_init 26 = .ok (.aload_n 0, 1) := by decide +kernel
theorem dX5_init_27 : decode cX5_init 27 = .ok (.new 21, 3) := by decide +kernel
theorem dX5_init_30 : decode cX5_init 30 = .ok (.dup, 1) := by decide +kernel
theorem dX5_init_31 : decode cX5_init 31 = .ok (.invokespecial 23, 3) := by decide +kernel
theorem dX5_init_34 : decode cX5_init 34 = .ok (.putfield 24, 3) := by decide +kernel
theorem dX5_init_37 : decode cX5_init 37 = .ok (.aload_n 0, 1) := by decide +kernel
theorem dX5_init_38 : decode cX5_init 38 = .ok (.new 28, 3) := by decide +kernel
theorem dX5_init_41 : decode cX5_init 41 = .ok (.dup, 1) := by decide +kernel
theorem dX5_init_42 : decode cX5_init 42 = .ok (.invokespecial 30, 3) := by decide +kernel
theorem dX5_init_45 : decode cX5_init 45 = .ok (.putfield 31, 3) := by decide +kernel
theorem dX5_init_48 : decode cX5_init 48 = .ok (.aload_n 0, 1) := by decide +kernel
theorem dX5_init_49 : decode cX5_init 49 = .ok (.iconst 4, 1) := by decide +kernel
theorem dX5_init_50 : decode cX5_init 50 = .ok (.anewarray 35, 3) := by decide +kernel
theorem dX5_init_53 : decode cX5_init 53 = .ok (.putfield 37, 3) := by decide +kernel
theorem dX5_init_56 : decode cX5_init 56 = .ok (.iconst 0, 1) := by decide +kernel
theorem dX5_init_57 : decode cX5_init 57 = .ok (.istore_n 1, 1) := by decide +kernel
theorem dX5_init_58 : decode cX5_init 58 = .ok (.iload_n 1, 1) := by decide +kernel
theorem dX5_init_59 : decode cX5_init 59 = .ok (.iconst 4, 1) := by decide +kernel
theorem dX5_init_60 : decode cX5_init 60 = .ok (.if_icmp .ge 22, 3) := by decide +kernel
theorem dX5_init_63 : decode cX5_init 63 = .ok (.aload_n 0, 1) := by decide +kernel
theorem dX5_init_64 : decode cX5_init 64 = .ok (.getfield 37, 3) := by decide +kernel
theorem dX5_init_67 : decode cX5_init 67 = .ok (.iload_n 1, 1) := by decide +kernel
theorem dX5_init_68 : decode cX5_init 68 = .ok (.new 35, 3) := by decide +kernel
theorem dX5_init_71 : decode cX5_init 71 = .ok (.dup, 1) := by decide +kernel
theorem dX5_init_72 : decode cX5_init 72 = .ok (.invokespecial 41, 3) := by decide +kernel
theorem dX5_init_75 : decode cX5_init 75 = .ok (.aastore, 1) := by decide +kernel
theorem dX5_init_76 : decode cX5_init 76 = .ok (.iinc 1 1, 3) := by decide +kernel
theorem dX5_init_79 : decode cX5_init 79 = .ok (.goto (-21), 3) := by decide +kernel
theorem dX5_init_82 : decode cX5_init 82 = .ok (.return_, 1) := by decide +kernel
set_option maxRecDepth 20000 in
theorem ggX5_wall_X5_sheetAt : GoodIn wsX5_wall wsX5_sheetAt := goodIn_r _ [10, 11, 12, 13, 9, 14, 77, 78, 79, 80, 81, 82, 83] (by decide +kernel) (by decide +kernel)
set_option maxRecDepth 20000 in
theorem gX5_wall_X5_sheetAt : GoodIn wsX5_wall (wsV RX5 46 RX5 yX5_sheetAt wsX5_sheetAt) := goodIn_app (goodIn_of _ (by decide +kernel)) ggX5_wall_X5_sheetAt
set_option maxRecDepth 20000 in
theorem ggX5_wall_X5_isUpTo : GoodIn wsX5_wall wsX5_isUpTo := goodIn_r _ [14] (by decide +kernel) (by decide +kernel)
set_option maxRecDepth 20000 in
theorem gX5_wall_X5_isUpTo : GoodIn wsX5_wall (va_wsS RX5 50 yX5_isUpTo wsX5_isUpTo) := goodIn_app (goodIn_of _ (by decide +kernel)) ggX5_wall_X5_isUpTo
set_option maxRecDepth 20000 in
theorem ggX5_wall_X3_faultAsLane : GoodIn wsX5_wall wsX3_faultAsLane := goodIn_r _ [19, 20, 21, 91, 92, 93, 94] (by decide +kernel) (by decide +kernel)
set_option maxRecDepth 20000 in
theorem gX5_wall_X3_faultAsLane : GoodIn wsX5_wall (wsV RX5 54 RX3 yX3_faultAsLane wsX3_faultAsLane) := goodIn_app (goodIn_of _ (by decide +kernel)) ggX5_wall_X3_faultAsLane
set_option maxRecDepth 20000 in
theorem ggX5_wall_X3_faultOfCells : GoodIn wsX5_wall wsX3_faultOfCells := goodIn_r _ [25, 20, 26, 91, 92, 93, 94] (by decide +kernel) (by decide +kernel)
set_option maxRecDepth 20000 in
theorem gX5_wall_X3_faultOfCells : GoodIn wsX5_wall (wsV RX5 58 RX3 yX3_faultOfCells wsX3_faultOfCells) := goodIn_app (goodIn_of _ (by decide +kernel)) ggX5_wall_X3_faultOfCells
set_option maxRecDepth 20000 in
theorem ggX5_wall_X5_failed : GoodIn wsX5_wall wsX5_failed := goodIn_r _ [30, 1, 77, 78, 79, 80, 81, 82, 83] (by decide +kernel) (by decide +kernel)
set_option maxRecDepth 20000 in
theorem gX5_wall_X5_failed : GoodIn wsX5_wall (wsV RX5 62 RX5 yX5_failed wsX5_failed) := goodIn_app (goodIn_of _ (by decide +kernel)) ggX5_wall_X5_failed
set_option maxRecDepth 20000 in
theorem ggX5_wall_X5_firstFault : GoodIn wsX5_wall wsX5_firstFault := goodIn_r _ [33, 34, 35, 36, 18, 37, 26, 38, 39, 40, 9, 41, 42, 43, 44, 45, 46, 47, 91, 92, 93, 94] (by decide +kernel) (by decide +kernel)
set_option maxRecDepth 20000 in
theorem gX5_wall_X5_firstFault : GoodIn wsX5_wall (va_wsS RX5 65 yX5_firstFault wsX5_firstFault) := goodIn_app (goodIn_of _ (by decide +kernel)) ggX5_wall_X5_firstFault
set_option maxRecDepth 20000 in
theorem ggX5_wall_X4_readText : GoodIn wsX5_wall wsX4_readText := goodIn_r _ [52, 53, 54, 51, 55, 56, 35, 36, 18, 37, 26, 38, 57, 58, 59, 60, 61, 62, 63, 46, 9, 47, 64, 65, 66, 67, 68, 69, 70, 71, 72, 73, 74, 75, 76, 91, 92, 93, 94, 87, 88, 89, 90, 95, 96, 97] (by decide +kernel) (by decide +kernel)
set_option maxRecDepth 20000 in
theorem gX5_wall_X4_readText : GoodIn wsX5_wall (wsV RX5 69 RX4 yX4_readText wsX4_readText) := goodIn_app (goodIn_of _ (by decide +kernel)) ggX5_wall_X4_readText
