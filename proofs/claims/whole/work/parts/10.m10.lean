abbrev rmX6_orders : Room := { frames := 5, cells := 0, slots := 0, locals := 123 }
theorem hdX6_orders : yX6_orders.cls = RX6 ∧ yX6_orders.cls ≠ "java/lang/invoke/MethodHandle" ∧ yX6_orders.cls ≠ "java/lang/invoke/VarHandle" ∧ (parseMethodDescriptor yX6_orders.desc).map (fun d => d.parameters.length) = some 1 := by decide +kernel
theorem kX6_orders_31 : Cond.fieldLink RX6 31 "PaperLayersModel" "order" "[I" ∈ wsX6_orders := List.mem_cons_of_mem _ (List.mem_append_left _ (List.mem_append_left _ (List.mem_of_getElem? (i := 1) rfl)))
theorem kX6_orders_56 : Cond.fieldLink RX6 56 "PaperLayersModel" "layers" "I" ∈ wsX6_orders := List.mem_cons_of_mem _ (List.mem_append_left _ (List.mem_append_left _ (List.mem_of_getElem? (i := 0) rfl)))
theorem inX6_orders_6 : ∀ w ∈ wsX60, w ∈ wsX6_orders := fun _ h => List.mem_cons_of_mem _ (List.mem_append_right _ (h))
set_option maxHeartbeats 4000000 in
set_option maxRecDepth 100000 in
theorem lX6_orders_L30 (l : Launch) (G : GT) {p : Program} {e : Env} {s : State} {m : MethodId} {args : Array Value} {below : List Frame} {meth : Method} {c : Code} (F : Fx p s m args meth c cX6_orders 5 wsX6_orders RX6 (some .int) G) (x1 : Int32) (r : Int32) (μ' : Mem) : ∀ (fuel : Nat), ∀ (x2 : Int32) (x3 : Int32) (x4 : Int32) (μ : Mem) (H : Heap) (locs : List Loc) (ls : Array Slot), Hh G μ H → va_S (gA G) s.heap H locs → lv_has ls 5 [(0, .ref (ga G 31)), (1, .int x1), (2, .int x2), (3, .int x3), (4, .int x4)] → fX6_orders_L30 x1 fuel x2 x3 x4 μ = some (r, μ') → W p l e rmX6_orders s m args below meth c H locs 0 0 (MQ below (Qg G (some (.int r)) μ') args s 0 0 (gA G)) (F0 m 30 ls []) := by
  intro fuel
  induction fuel with
  | zero =>
    intro x2 x3 x4 μ H locs ls hP hS hl hf
    exact absurd hf (by intro h; cases h)
  | succ fuel ih30 =>
    intro x2 x3 x4 μ H locs ls hP hS hl hf
    have hf : sX6_orders_L30 (fX6_orders_L30 x1 fuel) x1 x2 x3 x4 μ = some (r, μ') := hf
    unfold sX6_orders_L30 at hf
    refine lv_iload F.1.1 F.1.2.1 dX6_orders_30 (lv_at hl 4 rfl) ?_
    refine lv_aload_n F.1.1 F.1.2.1 dX6_orders_32 rfl (lv_at hl 0 rfl) ?_
    refine gt_6_5 F hP 31 rfl inX6_orders_6 kX6_orders_56 dX6_orders_33 ?_
    obtain ⟨r_6, μ_4, hc_5, hf⟩ := bnd_some hf
    refine rS1 (R := rmX6_orders) (As := [.int (μ 31 5)]) (rest := [.int x4]) F hP hS hl (mX6_ordersOf l G F.2.2.2.2 (μ 31 5) _ _ _ hc_5) gX6_orders_X6_ordersOf hdX6_ordersOf rfl rfl rfl ⟨Nat.le_of_ble_eq_true rfl, Nat.le_of_ble_eq_true rfl⟩ rfl rfl (Nat.le_of_ble_eq_true rfl) ⟨Nat.le_of_ble_eq_true rfl, Nat.le_of_ble_eq_true rfl⟩ dX6_orders_36 (fun H locs hP hS => ?_)
    refine jc_ge (tgt := 91) F dX6_orders_39 (by decide) hf (fun hf => ?_) (fun hf => ?_)
    · refine lv_iload_n F.1.1 F.1.2.1 dX6_orders_91 rfl (lv_at hl 1 rfl) ?_
      refine lv_iconst (v := (-1 : Int32)) F.1.1 F.1.2.1 dX6_orders_92 (by decide) ?_
      refine jc_ne (tgt := 100) F dX6_orders_93 (by decide) hf (fun hf => ?_) (fun hf => ?_)
      · refine lv_iload_n F.1.1 F.1.2.1 dX6_orders_100 rfl (lv_at hl 3 rfl) ?_
        exact retI F hP hS dX6_orders_101 hf
      · refine lv_iload_n F.1.1 F.1.2.1 dX6_orders_96 rfl (lv_at hl 2 rfl) ?_
        refine lv_goto (tgt := 101) F.1.1 F.1.2.1 dX6_orders_97 (by decide) ?_
        exact retI F hP hS dX6_orders_101 hf
    · refine lv_aload_n F.1.1 F.1.2.1 dX6_orders_42 rfl (lv_at hl 0 rfl) ?_
      refine lv_iload F.1.1 F.1.2.1 dX6_orders_43 (lv_at hl 4 rfl) ?_
      obtain ⟨u_9, μ_7, hc_8, hf⟩ := bnd_some hf
      refine rVv (R := rmX6_orders) (As := [.int x4]) (rest := []) F hP hS hl (mX6_orderBy l G F.2.2.2.2 x4 _ _ _ hc_8) gX6_orders_X6_orderBy rfl hdX6_orderBy rfl rfl rfl ⟨Nat.le_of_ble_eq_true rfl, Nat.le_of_ble_eq_true rfl⟩ (by decide) rfl rfl rfl (Nat.le_of_ble_eq_true rfl) ⟨Nat.le_of_ble_eq_true rfl, Nat.le_of_ble_eq_true rfl⟩ dX6_orders_45 (fun H locs hP hS => ?_)
      refine lv_aload_n F.1.1 F.1.2.1 dX6_orders_48 rfl (lv_at hl 0 rfl) ?_
      obtain ⟨r_12, μ_10, hc_11, hf⟩ := bnd_some hf
      refine rV1 (R := rmX6_orders) (As := []) (rest := []) F hP hS hl (mX6_areSo l G F.2.2.2.2  _ _ _ hc_11) gX6_orders_X6_areSo rfl hdX6_areSo rfl rfl rfl ⟨Nat.le_of_ble_eq_true rfl, Nat.le_of_ble_eq_true rfl⟩ (by decide) rfl rfl rfl (Nat.le_of_ble_eq_true rfl) ⟨Nat.le_of_ble_eq_true rfl, Nat.le_of_ble_eq_true rfl⟩ dX6_orders_49 (fun H locs hP hS => ?_)
      refine jz_eq (tgt := 85) F dX6_orders_52 (by decide) hf (fun hf => ?_) (fun hf => ?_)
      · refine top_n hf (fun y_13 ey_13 hf => ?_)
        refine lv_iinc (v := y_13) (lv' := [(4, .int y_13), (0, .ref (ga G 31)), (1, .int x1), (2, .int x2), (3, .int x3)]) F.1.1 F.1.2.1 dX6_orders_85 hl (k := 4) rfl ey_13 (by decide) rfl (fun ls hl => ?_)
        refine lv_goto (tgt := 30) F.1.1 F.1.2.1 dX6_orders_88 (by decide) ?_
        exact ih30 x2 x3 y_13 μ_10 H locs ls hP hS (lv_sub hl [1, 2, 3, 4, 0] rfl) hf
      · refine lv_iload_n F.1.1 F.1.2.1 dX6_orders_55 rfl (lv_at hl 2 rfl) ?_
        refine jz_ne (tgt := 80) F dX6_orders_56 (by decide) hf (fun hf => ?_) (fun hf => ?_)
        · refine lv_iload_n F.1.1 F.1.2.1 dX6_orders_80 rfl (lv_at hl 3 rfl) ?_
          refine lv_istore_n (lv' := [(3, .int x3), (0, .ref (ga G 31)), (1, .int x1), (2, .int x2), (4, .int x4)]) F.1.1 F.1.2.1 dX6_orders_81 rfl hl (by decide) rfl (fun ls hl => ?_)
          refine top_n hf (fun y_14 ey_14 hf => ?_)
          refine lv_iinc (v := y_14) (lv' := [(2, .int y_14), (3, .int x3), (0, .ref (ga G 31)), (1, .int x1), (4, .int x4)]) F.1.1 F.1.2.1 dX6_orders_82 hl (k := 3) rfl ey_14 (by decide) rfl (fun ls hl => ?_)
          refine top_n hf (fun y_15 ey_15 hf => ?_)
          refine lv_iinc (v := y_15) (lv' := [(4, .int y_15), (2, .int y_14), (3, .int x3), (0, .ref (ga G 31)), (1, .int x1)]) F.1.1 F.1.2.1 dX6_orders_85 hl (k := 4) rfl ey_15 (by decide) rfl (fun ls hl => ?_)
          refine lv_goto (tgt := 30) F.1.1 F.1.2.1 dX6_orders_88 (by decide) ?_
          exact ih30 y_14 x3 y_15 μ_10 H locs ls hP hS (lv_sub hl [3, 4, 1, 2, 0] rfl) hf
        · refine lv_iload_n F.1.1 F.1.2.1 dX6_orders_59 rfl (lv_at hl 1 rfl) ?_
          refine jz_lt (tgt := 80) F dX6_orders_60 (by decide) hf (fun hf => ?_) (fun hf => ?_)
          · refine lv_iload_n F.1.1 F.1.2.1 dX6_orders_80 rfl (lv_at hl 3 rfl) ?_
            refine lv_istore_n (lv' := [(3, .int x3), (0, .ref (ga G 31)), (1, .int x1), (2, .int x2), (4, .int x4)]) F.1.1 F.1.2.1 dX6_orders_81 rfl hl (by decide) rfl (fun ls hl => ?_)
            refine top_n hf (fun y_16 ey_16 hf => ?_)
            refine lv_iinc (v := y_16) (lv' := [(2, .int y_16), (3, .int x3), (0, .ref (ga G 31)), (1, .int x1), (4, .int x4)]) F.1.1 F.1.2.1 dX6_orders_82 hl (k := 3) rfl ey_16 (by decide) rfl (fun ls hl => ?_)
            refine top_n hf (fun y_17 ey_17 hf => ?_)
            refine lv_iinc (v := y_17) (lv' := [(4, .int y_17), (2, .int y_16), (3, .int x3), (0, .ref (ga G 31)), (1, .int x1)]) F.1.1 F.1.2.1 dX6_orders_85 hl (k := 4) rfl ey_17 (by decide) rfl (fun ls hl => ?_)
            refine lv_goto (tgt := 30) F.1.1 F.1.2.1 dX6_orders_88 (by decide) ?_
            exact ih30 y_16 x3 y_17 μ_10 H locs ls hP hS (lv_sub hl [3, 4, 1, 2, 0] rfl) hf
          · refine lv_iload_n F.1.1 F.1.2.1 dX6_orders_63 rfl (lv_at hl 1 rfl) ?_
            refine lv_aload_n F.1.1 F.1.2.1 dX6_orders_64 rfl (lv_at hl 0 rfl) ?_
            refine gt_6_5 F hP 31 rfl inX6_orders_6 kX6_orders_56 dX6_orders_65 ?_
            refine jc_ge (tgt := 80) F dX6_orders_68 (by decide) hf (fun hf => ?_) (fun hf => ?_)
            · refine lv_iload_n F.1.1 F.1.2.1 dX6_orders_80 rfl (lv_at hl 3 rfl) ?_
              refine lv_istore_n (lv' := [(3, .int x3), (0, .ref (ga G 31)), (1, .int x1), (2, .int x2), (4, .int x4)]) F.1.1 F.1.2.1 dX6_orders_81 rfl hl (by decide) rfl (fun ls hl => ?_)
              refine top_n hf (fun y_18 ey_18 hf => ?_)
              refine lv_iinc (v := y_18) (lv' := [(2, .int y_18), (3, .int x3), (0, .ref (ga G 31)), (1, .int x1), (4, .int x4)]) F.1.1 F.1.2.1 dX6_orders_82 hl (k := 3) rfl ey_18 (by decide) rfl (fun ls hl => ?_)
              refine top_n hf (fun y_19 ey_19 hf => ?_)
              refine lv_iinc (v := y_19) (lv' := [(4, .int y_19), (2, .int y_18), (3, .int x3), (0, .ref (ga G 31)), (1, .int x1)]) F.1.1 F.1.2.1 dX6_orders_85 hl (k := 4) rfl ey_19 (by decide) rfl (fun ls hl => ?_)
              refine lv_goto (tgt := 30) F.1.1 F.1.2.1 dX6_orders_88 (by decide) ?_
              exact ih30 y_18 x3 y_19 μ_10 H locs ls hP hS (lv_sub hl [3, 4, 1, 2, 0] rfl) hf
            · refine lv_aload_n F.1.1 F.1.2.1 dX6_orders_71 rfl (lv_at hl 0 rfl) ?_
              refine gt_6_16 F hP 31 rfl inX6_orders_6 kX6_orders_31 dX6_orders_72 ?_
              refine lv_iload_n F.1.1 F.1.2.1 dX6_orders_75 rfl (lv_at hl 1 rfl) ?_
              refine r_ial F hP 39 rfl rfl dX6_orders_76 hf (fun hf => ?_)
              refine lv_goto (tgt := 81) F.1.1 F.1.2.1 dX6_orders_77 (by decide) ?_
              refine top_i hf (fun y_20 hf => ?_)
              refine lv_istore_n (lv' := [(3, .int y_20), (0, .ref (ga G 31)), (1, .int x1), (2, .int x2), (4, .int x4)]) F.1.1 F.1.2.1 dX6_orders_81 rfl hl (by decide) rfl (fun ls hl => ?_)
              refine top_n hf (fun y_21 ey_21 hf => ?_)
              refine lv_iinc (v := y_21) (lv' := [(2, .int y_21), (3, .int y_20), (0, .ref (ga G 31)), (1, .int x1), (4, .int x4)]) F.1.1 F.1.2.1 dX6_orders_82 hl (k := 3) rfl ey_21 (by decide) rfl (fun ls hl => ?_)
              refine top_n hf (fun y_22 ey_22 hf => ?_)
              refine lv_iinc (v := y_22) (lv' := [(4, .int y_22), (2, .int y_21), (3, .int y_20), (0, .ref (ga G 31)), (1, .int x1)]) F.1.1 F.1.2.1 dX6_orders_85 hl (k := 4) rfl ey_22 (by decide) rfl (fun ls hl => ?_)
              refine lv_goto (tgt := 30) F.1.1 F.1.2.1 dX6_orders_88 (by decide) ?_
              exact ih30 y_21 y_20 y_22 μ_10 H locs ls hP hS (lv_sub hl [3, 4, 1, 2, 0] rfl) hf
set_option maxHeartbeats 4000000 in
set_option maxRecDepth 100000 in
theorem mX6_orders (l : Launch) (G : GT) (hG : GD G) (x1 : Int32) (μ : Mem) (r : Int32) (μ' : Mem) (hf : fX6_orders x1 μ = some (r, μ')) : Ct l yX6_orders wsX6_orders rmX6_orders G [.ref (ga G 31), .int x1] μ (some (.int r)) μ' := by
  refine Ct.of (cc := cX6_orders) (maxL := 5) (ret := (some .int)) (own := RX6) hG (by decide) rfl rfl (Nat.le_of_ble_eq_true rfl) ?_
  intro p e s m args below meth c ls H locs F hl hP hS
  have hl : lv_has ls 5 [(0, .ref (ga G 31)), (1, .int x1)] := hl
  unfold fX6_orders at hf
  refine lv_iload_n F.1.1 F.1.2.1 dX6_orders_0 rfl (lv_at hl 1 rfl) ?_
  refine lv_iconst (v := (-1 : Int32)) F.1.1 F.1.2.1 dX6_orders_1 (by decide) ?_
  refine lv_iconst (v := (5 : Int32)) F.1.1 F.1.2.1 dX6_orders_2 (by decide) ?_
  obtain ⟨r_3, μ_1, hc_2, hf⟩ := bnd_some hf
  refine rS1 (R := rmX6_orders) (As := [.int x1, .int (-1 : Int32), .int (5 : Int32)]) (rest := []) F hP hS hl (mX6_within l G F.2.2.2.2 x1 (-1 : Int32) (5 : Int32) _ _ _ hc_2) gX6_orders_X6_within hdX6_within rfl rfl rfl ⟨Nat.le_of_ble_eq_true rfl, Nat.le_of_ble_eq_true rfl⟩ rfl rfl (Nat.le_of_ble_eq_true rfl) ⟨Nat.le_of_ble_eq_true rfl, Nat.le_of_ble_eq_true rfl⟩ dX6_orders_3 (fun H locs hP hS => ?_)
  refine jz_ne (tgt := 12) F dX6_orders_6 (by decide) hf (fun hf => ?_) (fun hf => ?_)
  · refine lv_aload_n F.1.1 F.1.2.1 dX6_orders_12 rfl (lv_at hl 0 rfl) ?_
    refine gt_6_5 F hP 31 rfl inX6_orders_6 kX6_orders_56 dX6_orders_13 ?_
    refine jz_ne (tgt := 22) F dX6_orders_16 (by decide) hf (fun hf => ?_) (fun hf => ?_)
    · refine lv_iconst (v := (0 : Int32)) F.1.1 F.1.2.1 dX6_orders_22 (by decide) ?_
      refine lv_istore_n (lv' := [(2, .int (0 : Int32)), (0, .ref (ga G 31)), (1, .int x1)]) F.1.1 F.1.2.1 dX6_orders_23 rfl hl (by decide) rfl (fun ls hl => ?_)
      refine lv_bipush (v := (-9 : Int32)) F.1.1 F.1.2.1 dX6_orders_24 (by decide) ?_
      refine lv_istore_n (lv' := [(3, .int (-9 : Int32)), (2, .int (0 : Int32)), (0, .ref (ga G 31)), (1, .int x1)]) F.1.1 F.1.2.1 dX6_orders_26 rfl hl (by decide) rfl (fun ls hl => ?_)
      refine lv_iconst (v := (0 : Int32)) F.1.1 F.1.2.1 dX6_orders_27 (by decide) ?_
      refine lv_istore (lv' := [(4, .int (0 : Int32)), (3, .int (-9 : Int32)), (2, .int (0 : Int32)), (0, .ref (ga G 31)), (1, .int x1)]) F.1.1 F.1.2.1 dX6_orders_28 hl (by decide) rfl (fun ls hl => ?_)
      exact lX6_orders_L30 l G F x1 _ _ FU (0 : Int32) (-9 : Int32) (0 : Int32) μ_1 H locs ls hP hS (lv_sub hl [3, 4, 2, 1, 0] rfl) hf
    · refine lv_bipush (v := (-3 : Int32)) F.1.1 F.1.2.1 dX6_orders_19 (by decide) ?_
      exact retI F hP hS dX6_orders_21 hf
  · refine lv_bipush (v := (-2 : Int32)) F.1.1 F.1.2.1 dX6_orders_9 (by decide) ?_
    exact retI F hP hS dX6_orders_11 hf
abbrev rmX6_holds : Room := { frames := 5, cells := 0, slots := 0, locals := 123 }
theorem hdX6_holds : yX6_holds.cls = RX6 ∧ yX6_holds.cls ≠ "java/lang/invoke/MethodHandle" ∧ yX6_holds.cls ≠ "java/lang/invoke/VarHandle" ∧ (parseMethodDescriptor yX6_holds.desc).map (fun d => d.parameters.length) = some 1 := by decide +kernel
theorem kX6_holds_22 : Cond.fieldLink RX6 22 "PaperLayersModel" "hold" "[I" ∈ wsX6_holds := List.mem_cons_of_mem _ (List.mem_append_left _ (List.mem_append_left _ (List.mem_of_getElem? (i := 0) rfl)))
theorem inX6_holds_6 : ∀ w ∈ wsX60, w ∈ wsX6_holds := fun _ h => List.mem_cons_of_mem _ (List.mem_append_right _ (h))
set_option maxHeartbeats 4000000 in
set_option maxRecDepth 100000 in
theorem lX6_holds_L26 (l : Launch) (G : GT) {p : Program} {e : Env} {s : State} {m : MethodId} {args : Array Value} {below : List Frame} {meth : Method} {c : Code} (F : Fx p s m args meth c cX6_holds 5 wsX6_holds RX6 (some .int) G) (x1 : Int32) (x2 : Int32) (r : Int32) (μ' : Mem) : ∀ (fuel : Nat), ∀ (x3 : Int32) (x4 : Int32) (μ : Mem) (H : Heap) (locs : List Loc) (ls : Array Slot), Hh G μ H → va_S (gA G) s.heap H locs → lv_has ls 5 [(0, .ref (ga G 31)), (1, .int x1), (2, .int x2), (3, .int x3), (4, .int x4)] → fX6_holds_L26 x1 x2 fuel x3 x4 μ = some (r, μ') → W p l e rmX6_holds s m args below meth c H locs 0 0 (MQ below (Qg G (some (.int r)) μ') args s 0 0 (gA G)) (F0 m 26 ls []) := by
  intro fuel
  induction fuel with
  | zero =>
    intro x3 x4 μ H locs ls hP hS hl hf
    exact absurd hf (by intro h; cases h)
  | succ fuel ih26 =>
    intro x3 x4 μ H locs ls hP hS hl hf
    have hf : sX6_holds_L26 (fX6_holds_L26 x1 x2 fuel) x1 x2 x3 x4 μ = some (r, μ') := hf
    unfold sX6_holds_L26 at hf
    refine lv_iload F.1.1 F.1.2.1 dX6_holds_26 (lv_at hl 4 rfl) ?_
    refine lv_bipush (v := (9 : Int32)) F.1.1 F.1.2.1 dX6_holds_28 (by decide) ?_
    refine jc_gt (tgt := 65) F dX6_holds_30 (by decide) hf (fun hf => ?_) (fun hf => ?_)
    · refine lv_aload_n F.1.1 F.1.2.1 dX6_holds_65 rfl (lv_at hl 0 rfl) ?_
      refine gt_6_9 F hP 31 rfl inX6_holds_6 kX6_holds_22 dX6_holds_66 ?_
      refine lv_iload_n F.1.1 F.1.2.1 dX6_holds_69 rfl (lv_at hl 1 rfl) ?_
      refine lv_iload_n F.1.1 F.1.2.1 dX6_holds_70 rfl (lv_at hl 2 rfl) ?_
      refine r_ias F hP hS 36 rfl rfl dX6_holds_71 hf (fun μ_8 H locs hP hS hf => ?_)
      refine lv_iload_n F.1.1 F.1.2.1 dX6_holds_72 rfl (lv_at hl 3 rfl) ?_
      exact retI F hP hS dX6_holds_73 hf
    · refine lv_aload_n F.1.1 F.1.2.1 dX6_holds_33 rfl (lv_at hl 0 rfl) ?_
      refine gt_6_9 F hP 31 rfl inX6_holds_6 kX6_holds_22 dX6_holds_34 ?_
      refine lv_iload_n F.1.1 F.1.2.1 dX6_holds_37 rfl (lv_at hl 1 rfl) ?_
      refine lv_iload F.1.1 F.1.2.1 dX6_holds_38 (lv_at hl 4 rfl) ?_
      refine r_ias F hP hS 36 rfl rfl dX6_holds_40 hf (fun μ_9 H locs hP hS hf => ?_)
      refine lv_iload_n F.1.1 F.1.2.1 dX6_holds_41 rfl (lv_at hl 3 rfl) ?_
      refine lv_aload_n F.1.1 F.1.2.1 dX6_holds_42 rfl (lv_at hl 0 rfl) ?_
      obtain ⟨r_12, μ_10, hc_11, hf⟩ := bnd_some hf
      refine rV1 (R := rmX6_holds) (As := []) (rest := [.int x3]) F hP hS hl (mX6_areSo l G F.2.2.2.2  _ _ _ hc_11) gX6_holds_X6_areSo rfl hdX6_areSo rfl rfl rfl ⟨Nat.le_of_ble_eq_true rfl, Nat.le_of_ble_eq_true rfl⟩ (by decide) rfl rfl rfl (Nat.le_of_ble_eq_true rfl) ⟨Nat.le_of_ble_eq_true rfl, Nat.le_of_ble_eq_true rfl⟩ dX6_holds_43 (fun H locs hP hS => ?_)
      refine jz_eq (tgt := 56) F dX6_holds_46 (by decide) hf (fun hf => ?_) (fun hf => ?_)
      · refine lv_iconst (v := (0 : Int32)) F.1.1 F.1.2.1 dX6_holds_56 (by decide) ?_
        refine lv_ior F.1.1 F.1.2.1 dX6_holds_57 ?_
        refine top_i hf (fun y_13 hf => ?_)
        refine lv_istore_n (lv' := [(3, .int y_13), (0, .ref (ga G 31)), (1, .int x1), (2, .int x2), (4, .int x4)]) F.1.1 F.1.2.1 dX6_holds_58 rfl hl (by decide) rfl (fun ls hl => ?_)
        refine top_n hf (fun y_14 ey_14 hf => ?_)
        refine lv_iinc (v := y_14) (lv' := [(4, .int y_14), (3, .int y_13), (0, .ref (ga G 31)), (1, .int x1), (2, .int x2)]) F.1.1 F.1.2.1 dX6_holds_59 hl (k := 4) rfl ey_14 (by decide) rfl (fun ls hl => ?_)
        refine lv_goto (tgt := 26) F.1.1 F.1.2.1 dX6_holds_62 (by decide) ?_
        exact ih26 y_13 y_14 μ_10 H locs ls hP hS (lv_sub hl [2, 3, 4, 1, 0] rfl) hf
      · refine lv_iconst (v := (1 : Int32)) F.1.1 F.1.2.1 dX6_holds_49 (by decide) ?_
        refine lv_iload F.1.1 F.1.2.1 dX6_holds_50 (lv_at hl 4 rfl) ?_
        refine lv_ishl F.1.1 F.1.2.1 dX6_holds_52 ?_
        refine lv_goto (tgt := 57) F.1.1 F.1.2.1 dX6_holds_53 (by decide) ?_
        refine lv_ior F.1.1 F.1.2.1 dX6_holds_57 ?_
        refine top_i hf (fun y_15 hf => ?_)
        refine lv_istore_n (lv' := [(3, .int y_15), (0, .ref (ga G 31)), (1, .int x1), (2, .int x2), (4, .int x4)]) F.1.1 F.1.2.1 dX6_holds_58 rfl hl (by decide) rfl (fun ls hl => ?_)
        refine top_n hf (fun y_16 ey_16 hf => ?_)
        refine lv_iinc (v := y_16) (lv' := [(4, .int y_16), (3, .int y_15), (0, .ref (ga G 31)), (1, .int x1), (2, .int x2)]) F.1.1 F.1.2.1 dX6_holds_59 hl (k := 4) rfl ey_16 (by decide) rfl (fun ls hl => ?_)
        refine lv_goto (tgt := 26) F.1.1 F.1.2.1 dX6_holds_62 (by decide) ?_
        exact ih26 y_15 y_16 μ_10 H locs ls hP hS (lv_sub hl [2, 3, 4, 1, 0] rfl) hf
set_option maxHeartbeats 4000000 in
set_option maxRecDepth 100000 in
theorem mX6_holds (l : Launch) (G : GT) (hG : GD G) (x1 : Int32) (μ : Mem) (r : Int32) (μ' : Mem) (hf : fX6_holds x1 μ = some (r, μ')) : Ct l yX6_holds wsX6_holds rmX6_holds G [.ref (ga G 31), .int x1] μ (some (.int r)) μ' := by
  refine Ct.of (cc := cX6_holds) (maxL := 5) (ret := (some .int)) (own := RX6) hG (by decide) rfl rfl (Nat.le_of_ble_eq_true rfl) ?_
  intro p e s m args below meth c ls H locs F hl hP hS
  have hl : lv_has ls 5 [(0, .ref (ga G 31)), (1, .int x1)] := hl
  unfold fX6_holds at hf
  refine lv_aload_n F.1.1 F.1.2.1 dX6_holds_0 rfl (lv_at hl 0 rfl) ?_
  refine lv_iload_n F.1.1 F.1.2.1 dX6_holds_1 rfl (lv_at hl 1 rfl) ?_
  obtain ⟨r_3, μ_1, hc_2, hf⟩ := bnd_some hf
  refine rV1 (R := rmX6_holds) (As := [.int x1]) (rest := []) F hP hS hl (mX6_isLayer l G F.2.2.2.2 x1 _ _ _ hc_2) gX6_holds_X6_isLayer rfl hdX6_isLayer rfl rfl rfl ⟨Nat.le_of_ble_eq_true rfl, Nat.le_of_ble_eq_true rfl⟩ (by decide) rfl rfl rfl (Nat.le_of_ble_eq_true rfl) ⟨Nat.le_of_ble_eq_true rfl, Nat.le_of_ble_eq_true rfl⟩ dX6_holds_2 (fun H locs hP hS => ?_)
  refine jz_ne (tgt := 10) F dX6_holds_5 (by decide) hf (fun hf => ?_) (fun hf => ?_)
  · refine lv_aload_n F.1.1 F.1.2.1 dX6_holds_10 rfl (lv_at hl 0 rfl) ?_
    obtain ⟨u_6, μ_4, hc_5, hf⟩ := bnd_some hf
    refine rVv (R := rmX6_holds) (As := []) (rest := []) F hP hS hl (mX6_orderAsIs l G F.2.2.2.2  _ _ _ hc_5) gX6_holds_X6_orderAsIs rfl hdX6_orderAsIs rfl rfl rfl ⟨Nat.le_of_ble_eq_true rfl, Nat.le_of_ble_eq_true rfl⟩ (by decide) rfl rfl rfl (Nat.le_of_ble_eq_true rfl) ⟨Nat.le_of_ble_eq_true rfl, Nat.le_of_ble_eq_true rfl⟩ dX6_holds_11 (fun H locs hP hS => ?_)
    refine lv_aload_n F.1.1 F.1.2.1 dX6_holds_14 rfl (lv_at hl 0 rfl) ?_
    refine gt_6_9 F hP 31 rfl inX6_holds_6 kX6_holds_22 dX6_holds_15 ?_
    refine lv_iload_n F.1.1 F.1.2.1 dX6_holds_18 rfl (lv_at hl 1 rfl) ?_
    refine r_ial F hP 36 rfl rfl dX6_holds_19 hf (fun hf => ?_)
    refine top_i hf (fun y_7 hf => ?_)
    refine lv_istore_n (lv' := [(2, .int y_7), (0, .ref (ga G 31)), (1, .int x1)]) F.1.1 F.1.2.1 dX6_holds_20 rfl hl (by decide) rfl (fun ls hl => ?_)
    refine lv_iconst (v := (0 : Int32)) F.1.1 F.1.2.1 dX6_holds_21 (by decide) ?_
    refine lv_istore_n (lv' := [(3, .int (0 : Int32)), (2, .int y_7), (0, .ref (ga G 31)), (1, .int x1)]) F.1.1 F.1.2.1 dX6_holds_22 rfl hl (by decide) rfl (fun ls hl => ?_)
    refine lv_iconst (v := (0 : Int32)) F.1.1 F.1.2.1 dX6_holds_23 (by decide) ?_
    refine lv_istore (lv' := [(4, .int (0 : Int32)), (3, .int (0 : Int32)), (2, .int y_7), (0, .ref (ga G 31)), (1, .int x1)]) F.1.1 F.1.2.1 dX6_holds_24 hl (by decide) rfl (fun ls hl => ?_)
    exact lX6_holds_L26 l G F x1 y_7 _ _ FU (0 : Int32) (0 : Int32) μ_4 H locs ls hP hS (lv_sub hl [3, 4, 2, 1, 0] rfl) hf
  · refine lv_iconst (v := (-1 : Int32)) F.1.1 F.1.2.1 dX6_holds_8 (by decide) ?_
    exact retI F hP hS dX6_holds_9 hf
abbrev rmX6_advices : Room := { frames := 5, cells := 0, slots := 0, locals := 123 }
theorem hdX6_advices : yX6_advices.cls = RX6 ∧ yX6_advices.cls ≠ "java/lang/invoke/MethodHandle" ∧ yX6_advices.cls ≠ "java/lang/invoke/VarHandle" ∧ (parseMethodDescriptor yX6_advices.desc).map (fun d => d.parameters.length) = some 1 := by decide +kernel
theorem kX6_advices_25 : Cond.fieldLink RX6 25 "PaperLayersModel" "advice" "[I" ∈ wsX6_advices := List.mem_cons_of_mem _ (List.mem_append_left _ (List.mem_append_left _ (List.mem_of_getElem? (i := 0) rfl)))
theorem inX6_advices_6 : ∀ w ∈ wsX60, w ∈ wsX6_advices := fun _ h => List.mem_cons_of_mem _ (List.mem_append_right _ (h))
set_option maxHeartbeats 4000000 in
set_option maxRecDepth 100000 in
theorem lX6_advices_L26 (l : Launch) (G : GT) {p : Program} {e : Env} {s : State} {m : MethodId} {args : Array Value} {below : List Frame} {meth : Method} {c : Code} (F : Fx p s m args meth c cX6_advices 5 wsX6_advices RX6 (some .int) G) (x1 : Int32) (x2 : Int32) (r : Int32) (μ' : Mem) : ∀ (fuel : Nat), ∀ (x3 : Int32) (x4 : Int32) (μ : Mem) (H : Heap) (locs : List Loc) (ls : Array Slot), Hh G μ H → va_S (gA G) s.heap H locs → lv_has ls 5 [(0, .ref (ga G 31)), (1, .int x1), (2, .int x2), (3, .int x3), (4, .int x4)] → fX6_advices_L26 x1 x2 fuel x3 x4 μ = some (r, μ') → W p l e rmX6_advices s m args below meth c H locs 0 0 (MQ below (Qg G (some (.int r)) μ') args s 0 0 (gA G)) (F0 m 26 ls []) := by
  intro fuel
  induction fuel with
  | zero =>
    intro x3 x4 μ H locs ls hP hS hl hf
    exact absurd hf (by intro h; cases h)
  | succ fuel ih26 =>
    intro x3 x4 μ H locs ls hP hS hl hf
    have hf : sX6_advices_L26 (fX6_advices_L26 x1 x2 fuel) x1 x2 x3 x4 μ = some (r, μ') := hf
    unfold sX6_advices_L26 at hf
    refine lv_iload F.1.1 F.1.2.1 dX6_advices_26 (lv_at hl 4 rfl) ?_
    refine lv_bipush (v := (9 : Int32)) F.1.1 F.1.2.1 dX6_advices_28 (by decide) ?_
    refine jc_gt (tgt := 65) F dX6_advices_30 (by decide) hf (fun hf => ?_) (fun hf => ?_)
    · refine lv_aload_n F.1.1 F.1.2.1 dX6_advices_65 rfl (lv_at hl 0 rfl) ?_
      refine gt_6_10 F hP 31 rfl inX6_advices_6 kX6_advices_25 dX6_advices_66 ?_
      refine lv_iload_n F.1.1 F.1.2.1 dX6_advices_69 rfl (lv_at hl 1 rfl) ?_
      refine lv_iload_n F.1.1 F.1.2.1 dX6_advices_70 rfl (lv_at hl 2 rfl) ?_
      refine r_ias F hP hS 37 rfl rfl dX6_advices_71 hf (fun μ_8 H locs hP hS hf => ?_)
      refine lv_iload_n F.1.1 F.1.2.1 dX6_advices_72 rfl (lv_at hl 3 rfl) ?_
      exact retI F hP hS dX6_advices_73 hf
    · refine lv_aload_n F.1.1 F.1.2.1 dX6_advices_33 rfl (lv_at hl 0 rfl) ?_
      refine gt_6_10 F hP 31 rfl inX6_advices_6 kX6_advices_25 dX6_advices_34 ?_
      refine lv_iload_n F.1.1 F.1.2.1 dX6_advices_37 rfl (lv_at hl 1 rfl) ?_
      refine lv_iload F.1.1 F.1.2.1 dX6_advices_38 (lv_at hl 4 rfl) ?_
      refine r_ias F hP hS 37 rfl rfl dX6_advices_40 hf (fun μ_9 H locs hP hS hf => ?_)
      refine lv_iload_n F.1.1 F.1.2.1 dX6_advices_41 rfl (lv_at hl 3 rfl) ?_
      refine lv_aload_n F.1.1 F.1.2.1 dX6_advices_42 rfl (lv_at hl 0 rfl) ?_
      obtain ⟨r_12, μ_10, hc_11, hf⟩ := bnd_some hf
      refine rV1 (R := rmX6_advices) (As := []) (rest := [.int x3]) F hP hS hl (mX6_areSo l G F.2.2.2.2  _ _ _ hc_11) gX6_advices_X6_areSo rfl hdX6_areSo rfl rfl rfl ⟨Nat.le_of_ble_eq_true rfl, Nat.le_of_ble_eq_true rfl⟩ (by decide) rfl rfl rfl (Nat.le_of_ble_eq_true rfl) ⟨Nat.le_of_ble_eq_true rfl, Nat.le_of_ble_eq_true rfl⟩ dX6_advices_43 (fun H locs hP hS => ?_)
      refine jz_eq (tgt := 56) F dX6_advices_46 (by decide) hf (fun hf => ?_) (fun hf => ?_)
      · refine lv_iconst (v := (0 : Int32)) F.1.1 F.1.2.1 dX6_advices_56 (by decide) ?_
        refine lv_ior F.1.1 F.1.2.1 dX6_advices_57 ?_
        refine top_i hf (fun y_13 hf => ?_)
        refine lv_istore_n (lv' := [(3, .int y_13), (0, .ref (ga G 31)), (1, .int x1), (2, .int x2), (4, .int x4)]) F.1.1 F.1.2.1 dX6_advices_58 rfl hl (by decide) rfl (fun ls hl => ?_)
        refine top_n hf (fun y_14 ey_14 hf => ?_)
        refine lv_iinc (v := y_14) (lv' := [(4, .int y_14), (3, .int y_13), (0, .ref (ga G 31)), (1, .int x1), (2, .int x2)]) F.1.1 F.1.2.1 dX6_advices_59 hl (k := 4) rfl ey_14 (by decide) rfl (fun ls hl => ?_)
        refine lv_goto (tgt := 26) F.1.1 F.1.2.1 dX6_advices_62 (by decide) ?_
        exact ih26 y_13 y_14 μ_10 H locs ls hP hS (lv_sub hl [2, 3, 4, 1, 0] rfl) hf
      · refine lv_iconst (v := (1 : Int32)) F.1.1 F.1.2.1 dX6_advices_49 (by decide) ?_
        refine lv_iload F.1.1 F.1.2.1 dX6_advices_50 (lv_at hl 4 rfl) ?_
        refine lv_ishl F.1.1 F.1.2.1 dX6_advices_52 ?_
        refine lv_goto (tgt := 57) F.1.1 F.1.2.1 dX6_advices_53 (by decide) ?_
        refine lv_ior F.1.1 F.1.2.1 dX6_advices_57 ?_
        refine top_i hf (fun y_15 hf => ?_)
        refine lv_istore_n (lv' := [(3, .int y_15), (0, .ref (ga G 31)), (1, .int x1), (2, .int x2), (4, .int x4)]) F.1.1 F.1.2.1 dX6_advices_58 rfl hl (by decide) rfl (fun ls hl => ?_)
        refine top_n hf (fun y_16 ey_16 hf => ?_)
        refine lv_iinc (v := y_16) (lv' := [(4, .int y_16), (3, .int y_15), (0, .ref (ga G 31)), (1, .int x1), (2, .int x2)]) F.1.1 F.1.2.1 dX6_advices_59 hl (k := 4) rfl ey_16 (by decide) rfl (fun ls hl => ?_)
        refine lv_goto (tgt := 26) F.1.1 F.1.2.1 dX6_advices_62 (by decide) ?_
        exact ih26 y_15 y_16 μ_10 H locs ls hP hS (lv_sub hl [2, 3, 4, 1, 0] rfl) hf
set_option maxHeartbeats 4000000 in
set_option maxRecDepth 100000 in
theorem mX6_advices (l : Launch) (G : GT) (hG : GD G) (x1 : Int32) (μ : Mem) (r : Int32) (μ' : Mem) (hf : fX6_advices x1 μ = some (r, μ')) : Ct l yX6_advices wsX6_advices rmX6_advices G [.ref (ga G 31), .int x1] μ (some (.int r)) μ' := by
  refine Ct.of (cc := cX6_advices) (maxL := 5) (ret := (some .int)) (own := RX6) hG (by decide) rfl rfl (Nat.le_of_ble_eq_true rfl) ?_
  intro p e s m args below meth c ls H locs F hl hP hS
  have hl : lv_has ls 5 [(0, .ref (ga G 31)), (1, .int x1)] := hl
  unfold fX6_advices at hf
  refine lv_aload_n F.1.1 F.1.2.1 dX6_advices_0 rfl (lv_at hl 0 rfl) ?_
  refine lv_iload_n F.1.1 F.1.2.1 dX6_advices_1 rfl (lv_at hl 1 rfl) ?_
  obtain ⟨r_3, μ_1, hc_2, hf⟩ := bnd_some hf
  refine rV1 (R := rmX6_advices) (As := [.int x1]) (rest := []) F hP hS hl (mX6_isLayer l G F.2.2.2.2 x1 _ _ _ hc_2) gX6_advices_X6_isLayer rfl hdX6_isLayer rfl rfl rfl ⟨Nat.le_of_ble_eq_true rfl, Nat.le_of_ble_eq_true rfl⟩ (by decide) rfl rfl rfl (Nat.le_of_ble_eq_true rfl) ⟨Nat.le_of_ble_eq_true rfl, Nat.le_of_ble_eq_true rfl⟩ dX6_advices_2 (fun H locs hP hS => ?_)
  refine jz_ne (tgt := 10) F dX6_advices_5 (by decide) hf (fun hf => ?_) (fun hf => ?_)
  · refine lv_aload_n F.1.1 F.1.2.1 dX6_advices_10 rfl (lv_at hl 0 rfl) ?_
    obtain ⟨u_6, μ_4, hc_5, hf⟩ := bnd_some hf
    refine rVv (R := rmX6_advices) (As := []) (rest := []) F hP hS hl (mX6_orderAsIs l G F.2.2.2.2  _ _ _ hc_5) gX6_advices_X6_orderAsIs rfl hdX6_orderAsIs rfl rfl rfl ⟨Nat.le_of_ble_eq_true rfl, Nat.le_of_ble_eq_true rfl⟩ (by decide) rfl rfl rfl (Nat.le_of_ble_eq_true rfl) ⟨Nat.le_of_ble_eq_true rfl, Nat.le_of_ble_eq_true rfl⟩ dX6_advices_11 (fun H locs hP hS => ?_)
    refine lv_aload_n F.1.1 F.1.2.1 dX6_advices_14 rfl (lv_at hl 0 rfl) ?_
    refine gt_6_10 F hP 31 rfl inX6_advices_6 kX6_advices_25 dX6_advices_15 ?_
    refine lv_iload_n F.1.1 F.1.2.1 dX6_advices_18 rfl (lv_at hl 1 rfl) ?_
    refine r_ial F hP 37 rfl rfl dX6_advices_19 hf (fun hf => ?_)
    refine top_i hf (fun y_7 hf => ?_)
    refine lv_istore_n (lv' := [(2, .int y_7), (0, .ref (ga G 31)), (1, .int x1)]) F.1.1 F.1.2.1 dX6_advices_20 rfl hl (by decide) rfl (fun ls hl => ?_)
    refine lv_iconst (v := (0 : Int32)) F.1.1 F.1.2.1 dX6_advices_21 (by decide) ?_
    refine lv_istore_n (lv' := [(3, .int (0 : Int32)), (2, .int y_7), (0, .ref (ga G 31)), (1, .int x1)]) F.1.1 F.1.2.1 dX6_advices_22 rfl hl (by decide) rfl (fun ls hl => ?_)
    refine lv_iconst (v := (0 : Int32)) F.1.1 F.1.2.1 dX6_advices_23 (by decide) ?_
    refine lv_istore (lv' := [(4, .int (0 : Int32)), (3, .int (0 : Int32)), (2, .int y_7), (0, .ref (ga G 31)), (1, .int x1)]) F.1.1 F.1.2.1 dX6_advices_24 hl (by decide) rfl (fun ls hl => ?_)
    exact lX6_advices_L26 l G F x1 y_7 _ _ FU (0 : Int32) (0 : Int32) μ_4 H locs ls hP hS (lv_sub hl [3, 4, 2, 1, 0] rfl) hf
  · refine lv_iconst (v := (-1 : Int32)) F.1.1 F.1.2.1 dX6_advices_8 (by decide) ?_
    exact retI F hP hS dX6_advices_9 hf
abbrev rmX6_kinds : Room := { frames := 5, cells := 0, slots := 0, locals := 123 }
theorem hdX6_kinds : yX6_kinds.cls = RX6 ∧ yX6_kinds.cls ≠ "java/lang/invoke/MethodHandle" ∧ yX6_kinds.cls ≠ "java/lang/invoke/VarHandle" ∧ (parseMethodDescriptor yX6_kinds.desc).map (fun d => d.parameters.length) = some 1 := by decide +kernel
theorem kX6_kinds_19 : Cond.fieldLink RX6 19 "PaperLayersModel" "kind" "[I" ∈ wsX6_kinds := List.mem_cons_of_mem _ (List.mem_append_left _ (List.mem_append_left _ (List.mem_of_getElem? (i := 0) rfl)))
theorem inX6_kinds_6 : ∀ w ∈ wsX60, w ∈ wsX6_kinds := fun _ h => List.mem_cons_of_mem _ (List.mem_append_right _ (h))
set_option maxHeartbeats 4000000 in
set_option maxRecDepth 100000 in
theorem lX6_kinds_L26 (l : Launch) (G : GT) {p : Program} {e : Env} {s : State} {m : MethodId} {args : Array Value} {below : List Frame} {meth : Method} {c : Code} (F : Fx p s m args meth c cX6_kinds 5 wsX6_kinds RX6 (some .int) G) (x1 : Int32) (x2 : Int32) (r : Int32) (μ' : Mem) : ∀ (fuel : Nat), ∀ (x3 : Int32) (x4 : Int32) (μ : Mem) (H : Heap) (locs : List Loc) (ls : Array Slot), Hh G μ H → va_S (gA G) s.heap H locs → lv_has ls 5 [(0, .ref (ga G 31)), (1, .int x1), (2, .int x2), (3, .int x3), (4, .int x4)] → fX6_kinds_L26 x1 x2 fuel x3 x4 μ = some (r, μ') → W p l e rmX6_kinds s m args below meth c H locs 0 0 (MQ below (Qg G (some (.int r)) μ') args s 0 0 (gA G)) (F0 m 26 ls []) := by
  intro fuel
  induction fuel with
  | zero =>
    intro x3 x4 μ H locs ls hP hS hl hf
    exact absurd hf (by intro h; cases h)
  | succ fuel ih26 =>
    intro x3 x4 μ H locs ls hP hS hl hf
    have hf : sX6_kinds_L26 (fX6_kinds_L26 x1 x2 fuel) x1 x2 x3 x4 μ = some (r, μ') := hf
    unfold sX6_kinds_L26 at hf
    refine lv_iload F.1.1 F.1.2.1 dX6_kinds_26 (lv_at hl 4 rfl) ?_
    refine lv_iconst (v := (3 : Int32)) F.1.1 F.1.2.1 dX6_kinds_28 (by decide) ?_
    refine jc_ge (tgt := 64) F dX6_kinds_29 (by decide) hf (fun hf => ?_) (fun hf => ?_)
    · refine lv_aload_n F.1.1 F.1.2.1 dX6_kinds_64 rfl (lv_at hl 0 rfl) ?_
      refine gt_6_8 F hP 31 rfl inX6_kinds_6 kX6_kinds_19 dX6_kinds_65 ?_
      refine lv_iload_n F.1.1 F.1.2.1 dX6_kinds_68 rfl (lv_at hl 1 rfl) ?_
      refine lv_iload_n F.1.1 F.1.2.1 dX6_kinds_69 rfl (lv_at hl 2 rfl) ?_
      refine r_ias F hP hS 35 rfl rfl dX6_kinds_70 hf (fun μ_8 H locs hP hS hf => ?_)
      refine lv_iload_n F.1.1 F.1.2.1 dX6_kinds_71 rfl (lv_at hl 3 rfl) ?_
      exact retI F hP hS dX6_kinds_72 hf
    · refine lv_aload_n F.1.1 F.1.2.1 dX6_kinds_32 rfl (lv_at hl 0 rfl) ?_
      refine gt_6_8 F hP 31 rfl inX6_kinds_6 kX6_kinds_19 dX6_kinds_33 ?_
      refine lv_iload_n F.1.1 F.1.2.1 dX6_kinds_36 rfl (lv_at hl 1 rfl) ?_
      refine lv_iload F.1.1 F.1.2.1 dX6_kinds_37 (lv_at hl 4 rfl) ?_
      refine r_ias F hP hS 35 rfl rfl dX6_kinds_39 hf (fun μ_9 H locs hP hS hf => ?_)
      refine lv_iload_n F.1.1 F.1.2.1 dX6_kinds_40 rfl (lv_at hl 3 rfl) ?_
      refine lv_aload_n F.1.1 F.1.2.1 dX6_kinds_41 rfl (lv_at hl 0 rfl) ?_
      obtain ⟨r_12, μ_10, hc_11, hf⟩ := bnd_some hf
      refine rV1 (R := rmX6_kinds) (As := []) (rest := [.int x3]) F hP hS hl (mX6_areSo l G F.2.2.2.2  _ _ _ hc_11) gX6_kinds_X6_areSo rfl hdX6_areSo rfl rfl rfl ⟨Nat.le_of_ble_eq_true rfl, Nat.le_of_ble_eq_true rfl⟩ (by decide) rfl rfl rfl (Nat.le_of_ble_eq_true rfl) ⟨Nat.le_of_ble_eq_true rfl, Nat.le_of_ble_eq_true rfl⟩ dX6_kinds_42 (fun H locs hP hS => ?_)
      refine jz_eq (tgt := 55) F dX6_kinds_45 (by decide) hf (fun hf => ?_) (fun hf => ?_)
      · refine lv_iconst (v := (0 : Int32)) F.1.1 F.1.2.1 dX6_kinds_55 (by decide) ?_
        refine lv_ior F.1.1 F.1.2.1 dX6_kinds_56 ?_
        refine top_i hf (fun y_13 hf => ?_)
        refine lv_istore_n (lv' := [(3, .int y_13), (0, .ref (ga G 31)), (1, .int x1), (2, .int x2), (4, .int x4)]) F.1.1 F.1.2.1 dX6_kinds_57 rfl hl (by decide) rfl (fun ls hl => ?_)
        refine top_n hf (fun y_14 ey_14 hf => ?_)
        refine lv_iinc (v := y_14) (lv' := [(4, .int y_14), (3, .int y_13), (0, .ref (ga G 31)), (1, .int x1), (2, .int x2)]) F.1.1 F.1.2.1 dX6_kinds_58 hl (k := 4) rfl ey_14 (by decide) rfl (fun ls hl => ?_)
        refine lv_goto (tgt := 26) F.1.1 F.1.2.1 dX6_kinds_61 (by decide) ?_
        exact ih26 y_13 y_14 μ_10 H locs ls hP hS (lv_sub hl [2, 3, 4, 1, 0] rfl) hf
      · refine lv_iconst (v := (1 : Int32)) F.1.1 F.1.2.1 dX6_kinds_48 (by decide) ?_
        refine lv_iload F.1.1 F.1.2.1 dX6_kinds_49 (lv_at hl 4 rfl) ?_
        refine lv_ishl F.1.1 F.1.2.1 dX6_kinds_51 ?_
        refine lv_goto (tgt := 56) F.1.1 F.1.2.1 dX6_kinds_52 (by decide) ?_
        refine lv_ior F.1.1 F.1.2.1 dX6_kinds_56 ?_
        refine top_i hf (fun y_15 hf => ?_)
        refine lv_istore_n (lv' := [(3, .int y_15), (0, .ref (ga G 31)), (1, .int x1), (2, .int x2), (4, .int x4)]) F.1.1 F.1.2.1 dX6_kinds_57 rfl hl (by decide) rfl (fun ls hl => ?_)
        refine top_n hf (fun y_16 ey_16 hf => ?_)
        refine lv_iinc (v := y_16) (lv' := [(4, .int y_16), (3, .int y_15), (0, .ref (ga G 31)), (1, .int x1), (2, .int x2)]) F.1.1 F.1.2.1 dX6_kinds_58 hl (k := 4) rfl ey_16 (by decide) rfl (fun ls hl => ?_)
        refine lv_goto (tgt := 26) F.1.1 F.1.2.1 dX6_kinds_61 (by decide) ?_
        exact ih26 y_15 y_16 μ_10 H locs ls hP hS (lv_sub hl [2, 3, 4, 1, 0] rfl) hf
set_option maxHeartbeats 4000000 in
set_option maxRecDepth 100000 in
theorem mX6_kinds (l : Launch) (G : GT) (hG : GD G) (x1 : Int32) (μ : Mem) (r : Int32) (μ' : Mem) (hf : fX6_kinds x1 μ = some (r, μ')) : Ct l yX6_kinds wsX6_kinds rmX6_kinds G [.ref (ga G 31), .int x1] μ (some (.int r)) μ' := by
  refine Ct.of (cc := cX6_kinds) (maxL := 5) (ret := (some .int)) (own := RX6) hG (by decide) rfl rfl (Nat.le_of_ble_eq_true rfl) ?_
  intro p e s m args below meth c ls H locs F hl hP hS
  have hl : lv_has ls 5 [(0, .ref (ga G 31)), (1, .int x1)] := hl
  unfold fX6_kinds at hf
  refine lv_aload_n F.1.1 F.1.2.1 dX6_kinds_0 rfl (lv_at hl 0 rfl) ?_
  refine lv_iload_n F.1.1 F.1.2.1 dX6_kinds_1 rfl (lv_at hl 1 rfl) ?_
  obtain ⟨r_3, μ_1, hc_2, hf⟩ := bnd_some hf
  refine rV1 (R := rmX6_kinds) (As := [.int x1]) (rest := []) F hP hS hl (mX6_isLayer l G F.2.2.2.2 x1 _ _ _ hc_2) gX6_kinds_X6_isLayer rfl hdX6_isLayer rfl rfl rfl ⟨Nat.le_of_ble_eq_true rfl, Nat.le_of_ble_eq_true rfl⟩ (by decide) rfl rfl rfl (Nat.le_of_ble_eq_true rfl) ⟨Nat.le_of_ble_eq_true rfl, Nat.le_of_ble_eq_true rfl⟩ dX6_kinds_2 (fun H locs hP hS => ?_)
  refine jz_ne (tgt := 10) F dX6_kinds_5 (by decide) hf (fun hf => ?_) (fun hf => ?_)
  · refine lv_aload_n F.1.1 F.1.2.1 dX6_kinds_10 rfl (lv_at hl 0 rfl) ?_
    obtain ⟨u_6, μ_4, hc_5, hf⟩ := bnd_some hf
    refine rVv (R := rmX6_kinds) (As := []) (rest := []) F hP hS hl (mX6_orderAsIs l G F.2.2.2.2  _ _ _ hc_5) gX6_kinds_X6_orderAsIs rfl hdX6_orderAsIs rfl rfl rfl ⟨Nat.le_of_ble_eq_true rfl, Nat.le_of_ble_eq_true rfl⟩ (by decide) rfl rfl rfl (Nat.le_of_ble_eq_true rfl) ⟨Nat.le_of_ble_eq_true rfl, Nat.le_of_ble_eq_true rfl⟩ dX6_kinds_11 (fun H locs hP hS => ?_)
    refine lv_aload_n F.1.1 F.1.2.1 dX6_kinds_14 rfl (lv_at hl 0 rfl) ?_
    refine gt_6_8 F hP 31 rfl inX6_kinds_6 kX6_kinds_19 dX6_kinds_15 ?_
    refine lv_iload_n F.1.1 F.1.2.1 dX6_kinds_18 rfl (lv_at hl 1 rfl) ?_
    refine r_ial F hP 35 rfl rfl dX6_kinds_19 hf (fun hf => ?_)
    refine top_i hf (fun y_7 hf => ?_)
    refine lv_istore_n (lv' := [(2, .int y_7), (0, .ref (ga G 31)), (1, .int x1)]) F.1.1 F.1.2.1 dX6_kinds_20 rfl hl (by decide) rfl (fun ls hl => ?_)
    refine lv_iconst (v := (0 : Int32)) F.1.1 F.1.2.1 dX6_kinds_21 (by decide) ?_
    refine lv_istore_n (lv' := [(3, .int (0 : Int32)), (2, .int y_7), (0, .ref (ga G 31)), (1, .int x1)]) F.1.1 F.1.2.1 dX6_kinds_22 rfl hl (by decide) rfl (fun ls hl => ?_)
    refine lv_iconst (v := (0 : Int32)) F.1.1 F.1.2.1 dX6_kinds_23 (by decide) ?_
    refine lv_istore (lv' := [(4, .int (0 : Int32)), (3, .int (0 : Int32)), (2, .int y_7), (0, .ref (ga G 31)), (1, .int x1)]) F.1.1 F.1.2.1 dX6_kinds_24 hl (by decide) rfl (fun ls hl => ?_)
    exact lX6_kinds_L26 l G F x1 y_7 _ _ FU (0 : Int32) (0 : Int32) μ_4 H locs ls hP hS (lv_sub hl [3, 4, 2, 1, 0] rfl) hf
  · refine lv_iconst (v := (-1 : Int32)) F.1.1 F.1.2.1 dX6_kinds_8 (by decide) ?_
    exact retI F hP hS dX6_kinds_9 hf
abbrev rmX6_inLeastTerms : Room := { frames := 0, cells := 0, slots := 0, locals := 0 }
theorem hdX6_inLeastTerms : yX6_inLeastTerms.cls ≠ "java/lang/invoke/MethodHandle" ∧ yX6_inLeastTerms.cls ≠ "java/lang/invoke/VarHandle" ∧ (parseMethodDescriptor yX6_inLeastTerms.desc).map (fun d => d.parameters.length) = some 3 := by decide +kernel
set_option maxHeartbeats 4000000 in
set_option maxRecDepth 100000 in
theorem lX6_inLeastTerms_L6 (l : Launch) (G : GT) {p : Program} {e : Env} {s : State} {m : MethodId} {args : Array Value} {below : List Frame} {meth : Method} {c : Code} (F : Fx p s m args meth c cX6_inLeastTerms 11 wsX6_inLeastTerms RX6 (some .long) G) (x0 : Int64) (x2 : Int64) (x4 : Int32) (r : Int64) (μ' : Mem) : ∀ (fuel : Nat), ∀ (x5 : Int64) (x7 : Int64) (μ : Mem) (H : Heap) (locs : List Loc) (ls : Array Slot), Hh G μ H → va_S (gA G) s.heap H locs → lv_has ls 11 [(0, .long x0), (2, .long x2), (4, .int x4), (5, .long x5), (7, .long x7)] → fX6_inLeastTerms_L6 x0 x2 x4 fuel x5 x7 μ = some (r, μ') → W p l e rmX6_inLeastTerms s m args below meth c H locs 0 0 (MQ below (Qg G (some (.long r)) μ') args s 0 0 (gA G)) (F0 m 6 ls []) := by
  intro fuel
  induction fuel with
  | zero =>
    intro x5 x7 μ H locs ls hP hS hl hf
    exact absurd hf (by intro h; cases h)
  | succ fuel ih6 =>
    intro x5 x7 μ H locs ls hP hS hl hf
    have hf : sX6_inLeastTerms_L6 (fX6_inLeastTerms_L6 x0 x2 x4 fuel) x0 x2 x4 x5 x7 μ = some (r, μ') := hf
    unfold sX6_inLeastTerms_L6 at hf
    refine lv_lload F.1.1 F.1.2.1 dX6_inLeastTerms_6 (lv_at hl 4 rfl) ?_
    refine lv_lconst (v := (0 : Int64)) F.1.1 F.1.2.1 dX6_inLeastTerms_8 (by decide) ?_
    refine W.lcmp F.1.1 F.1.2.1 dX6_inLeastTerms_9 ?_
    refine jz_eq (tgt := 31) F dX6_inLeastTerms_10 (by decide) hf (fun hf => ?_) (fun hf => ?_)
    · refine lv_iload F.1.1 F.1.2.1 dX6_inLeastTerms_31 (lv_at hl 2 rfl) ?_
      refine jz_ne (tgt := 43) F dX6_inLeastTerms_33 (by decide) hf (fun hf => ?_) (fun hf => ?_)
      · refine lv_lload_n F.1.1 F.1.2.1 dX6_inLeastTerms_43 rfl (lv_at hl 1 rfl) ?_
        refine lv_lload F.1.1 F.1.2.1 dX6_inLeastTerms_44 (lv_at hl 3 rfl) ?_
        refine r_ldiv F dX6_inLeastTerms_46 hf (fun hf => ?_)
        exact retL F hP hS dX6_inLeastTerms_47 hf
      · refine lv_lload_n F.1.1 F.1.2.1 dX6_inLeastTerms_36 rfl (lv_at hl 0 rfl) ?_
        refine lv_lload F.1.1 F.1.2.1 dX6_inLeastTerms_37 (lv_at hl 3 rfl) ?_
        refine r_ldiv F dX6_inLeastTerms_39 hf (fun hf => ?_)
        refine lv_goto (tgt := 47) F.1.1 F.1.2.1 dX6_inLeastTerms_40 (by decide) ?_
        exact retL F hP hS dX6_inLeastTerms_47 hf
    · refine lv_lload F.1.1 F.1.2.1 dX6_inLeastTerms_13 (lv_at hl 3 rfl) ?_
      refine lv_lload F.1.1 F.1.2.1 dX6_inLeastTerms_15 (lv_at hl 4 rfl) ?_
      refine r_lrem F dX6_inLeastTerms_17 hf (fun hf => ?_)
      refine top_l hf (fun y_1 hf => ?_)
      refine lv_lstore (lv' := [(9, .long y_1), (0, .long x0), (2, .long x2), (4, .int x4), (5, .long x5), (7, .long x7)]) F.1.1 F.1.2.1 dX6_inLeastTerms_18 hl (by decide) rfl (fun ls hl => ?_)
      refine lv_lload F.1.1 F.1.2.1 dX6_inLeastTerms_20 (lv_at hl 5 rfl) ?_
      refine lv_lstore (lv' := [(5, .long x7), (9, .long y_1), (0, .long x0), (2, .long x2), (4, .int x4), (7, .long x7)]) F.1.1 F.1.2.1 dX6_inLeastTerms_22 hl (by decide) rfl (fun ls hl => ?_)
      refine lv_lload F.1.1 F.1.2.1 dX6_inLeastTerms_24 (lv_at hl 1 rfl) ?_
      refine lv_lstore (lv' := [(7, .long y_1), (5, .long x7), (9, .long y_1), (0, .long x0), (2, .long x2), (4, .int x4)]) F.1.1 F.1.2.1 dX6_inLeastTerms_26 hl (by decide) rfl (fun ls hl => ?_)
      refine lv_goto (tgt := 6) F.1.1 F.1.2.1 dX6_inLeastTerms_28 (by decide) ?_
      exact ih6 x7 y_1 μ H locs ls hP hS (lv_sub hl [3, 4, 5, 1, 0] rfl) hf
set_option maxHeartbeats 4000000 in
set_option maxRecDepth 100000 in
theorem mX6_inLeastTerms (l : Launch) (G : GT) (hG : GD G) (x0 : Int64) (x2 : Int64) (x4 : Int32) (μ : Mem) (r : Int64) (μ' : Mem) (hf : fX6_inLeastTerms x0 x2 x4 μ = some (r, μ')) : Ct l yX6_inLeastTerms wsX6_inLeastTerms rmX6_inLeastTerms G [.long x0, .long x2, .int x4] μ (some (.long r)) μ' := by
  refine Ct.of (cc := cX6_inLeastTerms) (maxL := 11) (ret := (some .long)) (own := RX6) hG (by decide) rfl rfl (Nat.le_of_ble_eq_true rfl) ?_
  intro p e s m args below meth c ls H locs F hl hP hS
  have hl : lv_has ls 11 [(0, .long x0), (2, .long x2), (4, .int x4)] := hl
  unfold fX6_inLeastTerms at hf
  refine lv_lload_n F.1.1 F.1.2.1 dX6_inLeastTerms_0 rfl (lv_at hl 0 rfl) ?_
  refine lv_lstore (lv' := [(5, .long x0), (0, .long x0), (2, .long x2), (4, .int x4)]) F.1.1 F.1.2.1 dX6_inLeastTerms_1 hl (by decide) rfl (fun ls hl => ?_)
  refine lv_lload_n F.1.1 F.1.2.1 dX6_inLeastTerms_3 rfl (lv_at hl 2 rfl) ?_
  refine lv_lstore (lv' := [(7, .long x2), (5, .long x0), (0, .long x0), (2, .long x2), (4, .int x4)]) F.1.1 F.1.2.1 dX6_inLeastTerms_4 hl (by decide) rfl (fun ls hl => ?_)
  exact lX6_inLeastTerms_L6 l G F x0 x2 x4 _ _ FU x0 x2 μ H locs ls hP hS (lv_sub hl [2, 3, 4, 1, 0] rfl) hf
abbrev rmX6_odds : Room := { frames := 3, cells := 0, slots := 0, locals := 74 }
theorem hdX6_odds : yX6_odds.cls = RX6 ∧ yX6_odds.cls ≠ "java/lang/invoke/MethodHandle" ∧ yX6_odds.cls ≠ "java/lang/invoke/VarHandle" ∧ (parseMethodDescriptor yX6_odds.desc).map (fun d => d.parameters.length) = some 2 := by decide +kernel
theorem kX6_odds_201 : Cond.constantLong RX6 201 (21) ∈ wsX6_odds := List.mem_cons_of_mem _ (List.mem_append_left _ (List.mem_append_left _ (List.mem_of_getElem? (i := 2) rfl)))
theorem kX6_odds_50 : Cond.constantLong RX6 50 (-9223372036854775808) ∈ wsX6_odds := List.mem_cons_of_mem _ (List.mem_append_left _ (List.mem_append_left _ (List.mem_of_getElem? (i := 0) rfl)))
theorem kX6_odds_92 : Cond.fieldLink RX6 92 "PaperLayersModel" "dampNow" "I" ∈ wsX6_odds := List.mem_cons_of_mem _ (List.mem_append_left _ (List.mem_append_left _ (List.mem_of_getElem? (i := 1) rfl)))
theorem inX6_odds_6 : ∀ w ∈ wsX60, w ∈ wsX6_odds := fun _ h => List.mem_cons_of_mem _ (List.mem_append_right _ (h))
set_option maxHeartbeats 4000000 in
set_option maxRecDepth 100000 in
theorem lX6_odds_L30 (l : Launch) (G : GT) {p : Program} {e : Env} {s : State} {m : MethodId} {args : Array Value} {below : List Frame} {meth : Method} {c : Code} (F : Fx p s m args meth c cX6_odds 5 wsX6_odds RX6 (some .long) G) (x1 : Int32) (x2 : Int32) (r : Int64) (μ' : Mem) : ∀ (fuel : Nat), ∀ (x3 : Int32) (x4 : Int32) (μ : Mem) (H : Heap) (locs : List Loc) (ls : Array Slot), Hh G μ H → va_S (gA G) s.heap H locs → lv_has ls 5 [(0, .ref (ga G 31)), (1, .int x1), (2, .int x2), (3, .int x3), (4, .int x4)] → fX6_odds_L30 x1 x2 fuel x3 x4 μ = some (r, μ') → W p l e rmX6_odds s m args below meth c H locs 0 0 (MQ below (Qg G (some (.long r)) μ') args s 0 0 (gA G)) (F0 m 30 ls []) := by
  intro fuel
  induction fuel with
  | zero =>
    intro x3 x4 μ H locs ls hP hS hl hf
    exact absurd hf (by intro h; cases h)
  | succ fuel ih30 =>
    intro x3 x4 μ H locs ls hP hS hl hf
    have hf : sX6_odds_L30 (fX6_odds_L30 x1 x2 fuel) x1 x2 x3 x4 μ = some (r, μ') := hf
    unfold sX6_odds_L30 at hf
    refine lv_iload F.1.1 F.1.2.1 dX6_odds_30 (lv_at hl 4 rfl) ?_
    refine lv_bipush (v := (20 : Int32)) F.1.1 F.1.2.1 dX6_odds_32 (by decide) ?_
    refine jc_gt (tgt := 61) F dX6_odds_34 (by decide) hf (fun hf => ?_) (fun hf => ?_)
    · refine lv_iload_n F.1.1 F.1.2.1 dX6_odds_61 rfl (lv_at hl 3 rfl) ?_
      refine lv_i2l F.1.1 F.1.2.1 dX6_odds_62 rfl ?_
      refine lv_ldc2 (v := (21 : Int64)) F.1.1 F.1.2.1 F.1.2.2.2.1 (F.1.2.2.2.2 _ kX6_odds_201) dX6_odds_63 ?_
      refine lv_iload_n F.1.1 F.1.2.1 dX6_odds_66 rfl (lv_at hl 2 rfl) ?_
      obtain ⟨r_12, μ_10, hc_11, hf⟩ := bnd_some hf
      refine rS1 (R := rmX6_odds) (As := [.long (x3).toInt64, .long (21 : Int64), .int x2]) (rest := []) F hP hS hl (mX6_inLeastTerms l G F.2.2.2.2 ((x3).toInt64) (21 : Int64) x2 _ _ _ hc_11) gX6_odds_X6_inLeastTerms hdX6_inLeastTerms rfl rfl rfl ⟨Nat.le_of_ble_eq_true rfl, Nat.le_of_ble_eq_true rfl⟩ rfl rfl (Nat.le_of_ble_eq_true rfl) ⟨Nat.le_of_ble_eq_true rfl, Nat.le_of_ble_eq_true rfl⟩ dX6_odds_67 (fun H locs hP hS => ?_)
      exact retL F hP hS dX6_odds_70 hf
    · refine lv_iload_n F.1.1 F.1.2.1 dX6_odds_37 rfl (lv_at hl 3 rfl) ?_
      refine lv_aload_n F.1.1 F.1.2.1 dX6_odds_38 rfl (lv_at hl 0 rfl) ?_
      refine lv_iload F.1.1 F.1.2.1 dX6_odds_39 (lv_at hl 4 rfl) ?_
      refine lv_aload_n F.1.1 F.1.2.1 dX6_odds_41 rfl (lv_at hl 0 rfl) ?_
      refine gt_6_7 F hP 31 rfl inX6_odds_6 kX6_odds_92 dX6_odds_42 ?_
      refine lv_iconst (v := (0 : Int32)) F.1.1 F.1.2.1 dX6_odds_45 (by decide) ?_
      obtain ⟨r_15, μ_13, hc_14, hf⟩ := bnd_some hf
      refine rV1 (R := rmX6_odds) (As := [.int x4, .int (μ 31 7), .int (0 : Int32)]) (rest := [.int x3]) F hP hS hl (mX6_heardBy l G F.2.2.2.2 x4 (μ 31 7) (0 : Int32) _ _ _ hc_14) gX6_odds_X6_heardBy rfl hdX6_heardBy rfl rfl rfl ⟨Nat.le_of_ble_eq_true rfl, Nat.le_of_ble_eq_true rfl⟩ (by decide) rfl rfl rfl (Nat.le_of_ble_eq_true rfl) ⟨Nat.le_of_ble_eq_true rfl, Nat.le_of_ble_eq_true rfl⟩ dX6_odds_46 (fun H locs hP hS => ?_)
      refine lv_iload_n F.1.1 F.1.2.1 dX6_odds_49 rfl (lv_at hl 1 rfl) ?_
      refine lv_ishr F.1.1 F.1.2.1 dX6_odds_50 ?_
      refine lv_iconst (v := (1 : Int32)) F.1.1 F.1.2.1 dX6_odds_51 (by decide) ?_
      refine lv_iand F.1.1 F.1.2.1 dX6_odds_52 ?_
      refine lv_iadd F.1.1 F.1.2.1 dX6_odds_53 ?_
      refine top_i hf (fun y_16 hf => ?_)
      refine lv_istore_n (lv' := [(3, .int y_16), (0, .ref (ga G 31)), (1, .int x1), (2, .int x2), (4, .int x4)]) F.1.1 F.1.2.1 dX6_odds_54 rfl hl (by decide) rfl (fun ls hl => ?_)
      refine top_n hf (fun y_17 ey_17 hf => ?_)
      refine lv_iinc (v := y_17) (lv' := [(4, .int y_17), (3, .int y_16), (0, .ref (ga G 31)), (1, .int x1), (2, .int x2)]) F.1.1 F.1.2.1 dX6_odds_55 hl (k := 4) rfl ey_17 (by decide) rfl (fun ls hl => ?_)
      refine lv_goto (tgt := 30) F.1.1 F.1.2.1 dX6_odds_58 (by decide) ?_
      exact ih30 y_16 y_17 μ_13 H locs ls hP hS (lv_sub hl [2, 3, 4, 1, 0] rfl) hf
set_option maxHeartbeats 4000000 in
set_option maxRecDepth 100000 in
theorem mX6_odds (l : Launch) (G : GT) (hG : GD G) (x1 : Int32) (x2 : Int32) (μ : Mem) (r : Int64) (μ' : Mem) (hf : fX6_odds x1 x2 μ = some (r, μ')) : Ct l yX6_odds wsX6_odds rmX6_odds G [.ref (ga G 31), .int x1, .int x2] μ (some (.long r)) μ' := by
  refine Ct.of (cc := cX6_odds) (maxL := 5) (ret := (some .long)) (own := RX6) hG (by decide) rfl rfl (Nat.le_of_ble_eq_true rfl) ?_
  intro p e s m args below meth c ls H locs F hl hP hS
  have hl : lv_has ls 5 [(0, .ref (ga G 31)), (1, .int x1), (2, .int x2)] := hl
  unfold fX6_odds at hf
  refine lv_aload_n F.1.1 F.1.2.1 dX6_odds_0 rfl (lv_at hl 0 rfl) ?_
  refine lv_iload_n F.1.1 F.1.2.1 dX6_odds_1 rfl (lv_at hl 1 rfl) ?_
  obtain ⟨r_3, μ_1, hc_2, hf⟩ := bnd_some hf
  refine rV1 (R := rmX6_odds) (As := [.int x1]) (rest := []) F hP hS hl (mX6_isLayer l G F.2.2.2.2 x1 _ _ _ hc_2) gX6_odds_X6_isLayer rfl hdX6_isLayer rfl rfl rfl ⟨Nat.le_of_ble_eq_true rfl, Nat.le_of_ble_eq_true rfl⟩ (by decide) rfl rfl rfl (Nat.le_of_ble_eq_true rfl) ⟨Nat.le_of_ble_eq_true rfl, Nat.le_of_ble_eq_true rfl⟩ dX6_odds_2 (fun H locs hP hS => ?_)
  refine jz_eq (tgt := 17) F dX6_odds_5 (by decide) hf (fun hf => ?_) (fun hf => ?_)
  · refine lv_ldc2 (v := (-9223372036854775808 : Int64)) F.1.1 F.1.2.1 F.1.2.2.2.1 (F.1.2.2.2.2 _ kX6_odds_50) dX6_odds_17 ?_
    exact retL F hP hS dX6_odds_20 hf
  · refine lv_iload_n F.1.1 F.1.2.1 dX6_odds_8 rfl (lv_at hl 2 rfl) ?_
    refine lv_iconst (v := (0 : Int32)) F.1.1 F.1.2.1 dX6_odds_9 (by decide) ?_
    refine lv_iconst (v := (1 : Int32)) F.1.1 F.1.2.1 dX6_odds_10 (by decide) ?_
    obtain ⟨r_6, μ_4, hc_5, hf⟩ := bnd_some hf
    refine rS1 (R := rmX6_odds) (As := [.int x2, .int (0 : Int32), .int (1 : Int32)]) (rest := []) F hP hS hl (mX6_within l G F.2.2.2.2 x2 (0 : Int32) (1 : Int32) _ _ _ hc_5) gX6_odds_X6_within hdX6_within rfl rfl rfl ⟨Nat.le_of_ble_eq_true rfl, Nat.le_of_ble_eq_true rfl⟩ rfl rfl (Nat.le_of_ble_eq_true rfl) ⟨Nat.le_of_ble_eq_true rfl, Nat.le_of_ble_eq_true rfl⟩ dX6_odds_11 (fun H locs hP hS => ?_)
    refine jz_ne (tgt := 21) F dX6_odds_14 (by decide) hf (fun hf => ?_) (fun hf => ?_)
    · refine lv_aload_n F.1.1 F.1.2.1 dX6_odds_21 rfl (lv_at hl 0 rfl) ?_
      obtain ⟨u_9, μ_7, hc_8, hf⟩ := bnd_some hf
      refine rVv (R := rmX6_odds) (As := []) (rest := []) F hP hS hl (mX6_orderAsIs l G F.2.2.2.2  _ _ _ hc_8) gX6_odds_X6_orderAsIs rfl hdX6_orderAsIs rfl rfl rfl ⟨Nat.le_of_ble_eq_true rfl, Nat.le_of_ble_eq_true rfl⟩ (by decide) rfl rfl rfl (Nat.le_of_ble_eq_true rfl) ⟨Nat.le_of_ble_eq_true rfl, Nat.le_of_ble_eq_true rfl⟩ dX6_odds_22 (fun H locs hP hS => ?_)
      refine lv_iconst (v := (0 : Int32)) F.1.1 F.1.2.1 dX6_odds_25 (by decide) ?_
      refine lv_istore_n (lv' := [(3, .int (0 : Int32)), (0, .ref (ga G 31)), (1, .int x1), (2, .int x2)]) F.1.1 F.1.2.1 dX6_odds_26 rfl hl (by decide) rfl (fun ls hl => ?_)
      refine lv_iconst (v := (0 : Int32)) F.1.1 F.1.2.1 dX6_odds_27 (by decide) ?_
      refine lv_istore (lv' := [(4, .int (0 : Int32)), (3, .int (0 : Int32)), (0, .ref (ga G 31)), (1, .int x1), (2, .int x2)]) F.1.1 F.1.2.1 dX6_odds_28 hl (by decide) rfl (fun ls hl => ?_)
      exact lX6_odds_L30 l G F x1 x2 _ _ FU (0 : Int32) (0 : Int32) μ_7 H locs ls hP hS (lv_sub hl [2, 3, 4, 1, 0] rfl) hf
    · refine lv_ldc2 (v := (-9223372036854775808 : Int64)) F.1.1 F.1.2.1 F.1.2.2.2.1 (F.1.2.2.2.2 _ kX6_odds_50) dX6_odds_17 ?_
      exact retL F hP hS dX6_odds_20 hf
abbrev rmX6_sheet : Room := { frames := 2, cells := 0, slots := 0, locals := 42 }
theorem hdX6_sheet : yX6_sheet.cls = RX6 ∧ yX6_sheet.cls ≠ "java/lang/invoke/MethodHandle" ∧ yX6_sheet.cls ≠ "java/lang/invoke/VarHandle" ∧ (parseMethodDescriptor yX6_sheet.desc).map (fun d => d.parameters.length) = some 3 := by decide +kernel
theorem kX6_sheet_13 : Cond.fieldLink RX6 13 "PaperLayersModel" "sheetLong" "[I" ∈ wsX6_sheet := List.mem_cons_of_mem _ (List.mem_append_left _ (List.mem_of_getElem? (i := 2) rfl))
theorem kX6_sheet_16 : Cond.fieldLink RX6 16 "PaperLayersModel" "cells" "[I" ∈ wsX6_sheet := List.mem_cons_of_mem _ (List.mem_append_left _ (List.mem_of_getElem? (i := 3) rfl))
theorem kX6_sheet_46 : Cond.fieldLink RX6 46 "PaperLayersModel" "fault" "I" ∈ wsX6_sheet := List.mem_cons_of_mem _ (List.mem_append_left _ (List.mem_of_getElem? (i := 0) rfl))
theorem kX6_sheet_9 : Cond.fieldLink RX6 9 "PaperLayersModel" "sorts" "[I" ∈ wsX6_sheet := List.mem_cons_of_mem _ (List.mem_append_left _ (List.mem_of_getElem? (i := 1) rfl))
theorem inX6_sheet_6 : ∀ w ∈ wsX60, w ∈ wsX6_sheet := fun _ h => List.mem_cons_of_mem _ (List.mem_append_right _ (h))
set_option maxHeartbeats 4000000 in
set_option maxRecDepth 100000 in
theorem lX6_sheet_L57 (l : Launch) (G : GT) {p : Program} {e : Env} {s : State} {m : MethodId} {args : Array Value} {below : List Frame} {meth : Method} {c : Code} (F : Fx p s m args meth c cX6_sheet 5 wsX6_sheet RX6 (some .int) G) (x1 : Int32) (r : Int32) (μ' : Mem) : ∀ (fuel : Nat), ∀ (x4 : Int32) (μ : Mem) (H : Heap) (locs : List Loc) (ls : Array Slot), Hh G μ H → va_S (gA G) s.heap H locs → lv_has ls 5 [(0, .ref (ga G 31)), (1, .int x1), (4, .int x4)] → fX6_sheet_L57 x1 fuel x4 μ = some (r, μ') → W p l e rmX6_sheet s m args below meth c H locs 0 0 (MQ below (Qg G (some (.int r)) μ') args s 0 0 (gA G)) (F0 m 57 ls []) := by
  intro fuel
  induction fuel with
  | zero =>
    intro x4 μ H locs ls hP hS hl hf
    exact absurd hf (by intro h; cases h)
  | succ fuel ih57 =>
    intro x4 μ H locs ls hP hS hl hf
    have hf : sX6_sheet_L57 (fX6_sheet_L57 x1 fuel) x1 x4 μ = some (r, μ') := hf
    unfold sX6_sheet_L57 at hf
    refine lv_iload F.1.1 F.1.2.1 dX6_sheet_57 (lv_at hl 2 rfl) ?_
    refine lv_bipush (v := (60 : Int32)) F.1.1 F.1.2.1 dX6_sheet_59 (by decide) ?_
    refine jc_ge (tgt := 83) F dX6_sheet_61 (by decide) hf (fun hf => ?_) (fun hf => ?_)
    · refine lv_iconst (v := (1 : Int32)) F.1.1 F.1.2.1 dX6_sheet_83 (by decide) ?_
      exact retI F hP hS dX6_sheet_84 hf
    · refine lv_aload_n F.1.1 F.1.2.1 dX6_sheet_64 rfl (lv_at hl 0 rfl) ?_
      refine gt_6_4 F hP 31 rfl inX6_sheet_6 kX6_sheet_16 dX6_sheet_65 ?_
      refine lv_bipush (v := (60 : Int32)) F.1.1 F.1.2.1 dX6_sheet_68 (by decide) ?_
      refine lv_iload_n F.1.1 F.1.2.1 dX6_sheet_70 rfl (lv_at hl 1 rfl) ?_
      refine lv_imul F.1.1 F.1.2.1 dX6_sheet_71 ?_
      refine lv_iload F.1.1 F.1.2.1 dX6_sheet_72 (lv_at hl 2 rfl) ?_
      refine lv_iadd F.1.1 F.1.2.1 dX6_sheet_74 ?_
      refine lv_iconst (v := (0 : Int32)) F.1.1 F.1.2.1 dX6_sheet_75 (by decide) ?_
      refine r_ias F hP hS 34 rfl rfl dX6_sheet_76 hf (fun μ_13 H locs hP hS hf => ?_)
      refine top_n hf (fun y_14 ey_14 hf => ?_)
      refine lv_iinc (v := y_14) (lv' := [(4, .int y_14), (0, .ref (ga G 31)), (1, .int x1)]) F.1.1 F.1.2.1 dX6_sheet_77 hl (k := 2) rfl ey_14 (by decide) rfl (fun ls hl => ?_)
      refine lv_goto (tgt := 57) F.1.1 F.1.2.1 dX6_sheet_80 (by decide) ?_
      exact ih57 y_14 μ_13 H locs ls hP hS (lv_sub hl [1, 2, 0] rfl) hf
set_option maxHeartbeats 4000000 in
set_option maxRecDepth 100000 in
theorem mX6_sheet (l : Launch) (G : GT) (hG : GD G) (x1 : Int32) (x2 : Int32) (x3 : Int32) (μ : Mem) (r : Int32) (μ' : Mem) (hf : fX6_sheet x1 x2 x3 μ = some (r, μ')) : Ct l yX6_sheet wsX6_sheet rmX6_sheet G [.ref (ga G 31), .int x1, .int x2, .int x3] μ (some (.int r)) μ' := by
  refine Ct.of (cc := cX6_sheet) (maxL := 5) (ret := (some .int)) (own := RX6) hG (by decide) rfl rfl (Nat.le_of_ble_eq_true rfl) ?_
  intro p e s m args below meth c ls H locs F hl hP hS
  have hl : lv_has ls 5 [(0, .ref (ga G 31)), (1, .int x1), (2, .int x2), (3, .int x3)] := hl
  unfold fX6_sheet at hf
  refine lv_aload_n F.1.1 F.1.2.1 dX6_sheet_0 rfl (lv_at hl 0 rfl) ?_
  refine lv_iconst (v := (0 : Int32)) F.1.1 F.1.2.1 dX6_sheet_1 (by decide) ?_
  refine pt_6_0 F hP hS 31 rfl inX6_sheet_6 kX6_sheet_46 dX6_sheet_2 hf (fun μ_1 H locs hP hS hf => ?_)
  refine lv_iload_n F.1.1 F.1.2.1 dX6_sheet_5 rfl (lv_at hl 1 rfl) ?_
  obtain ⟨r_4, μ_2, hc_3, hf⟩ := bnd_some hf
  refine rS1 (R := rmX6_sheet) (As := [.int x1]) (rest := []) F hP hS hl (mX6_isSheet l G F.2.2.2.2 x1 _ _ _ hc_3) gX6_sheet_X6_isSheet hdX6_isSheet rfl rfl rfl ⟨Nat.le_of_ble_eq_true rfl, Nat.le_of_ble_eq_true rfl⟩ rfl rfl (Nat.le_of_ble_eq_true rfl) ⟨Nat.le_of_ble_eq_true rfl, Nat.le_of_ble_eq_true rfl⟩ dX6_sheet_6 (fun H locs hP hS => ?_)
  refine jz_ne (tgt := 14) F dX6_sheet_9 (by decide) hf (fun hf => ?_) (fun hf => ?_)
  · refine lv_iload_n F.1.1 F.1.2.1 dX6_sheet_14 rfl (lv_at hl 2 rfl) ?_
    obtain ⟨r_7, μ_5, hc_6, hf⟩ := bnd_some hf
    refine rS1 (R := rmX6_sheet) (As := [.int x2]) (rest := []) F hP hS hl (mX6_isSort l G F.2.2.2.2 x2 _ _ _ hc_6) gX6_sheet_X6_isSort hdX6_isSort rfl rfl rfl ⟨Nat.le_of_ble_eq_true rfl, Nat.le_of_ble_eq_true rfl⟩ rfl rfl (Nat.le_of_ble_eq_true rfl) ⟨Nat.le_of_ble_eq_true rfl, Nat.le_of_ble_eq_true rfl⟩ dX6_sheet_15 (fun H locs hP hS => ?_)
    refine jz_eq (tgt := 27) F dX6_sheet_18 (by decide) hf (fun hf => ?_) (fun hf => ?_)
    · refine lv_bipush (v := (-2 : Int32)) F.1.1 F.1.2.1 dX6_sheet_27 (by decide) ?_
      exact retI F hP hS dX6_sheet_29 hf
    · refine lv_iload_n F.1.1 F.1.2.1 dX6_sheet_21 rfl (lv_at hl 3 rfl) ?_
      refine lv_bipush (v := (60 : Int32)) F.1.1 F.1.2.1 dX6_sheet_22 (by decide) ?_
      refine jc_le (tgt := 30) F dX6_sheet_24 (by decide) hf (fun hf => ?_) (fun hf => ?_)
      · refine lv_iload_n F.1.1 F.1.2.1 dX6_sheet_30 rfl (lv_at hl 3 rfl) ?_
        refine jz_ge (tgt := 40) F dX6_sheet_31 (by decide) hf (fun hf => ?_) (fun hf => ?_)
        · refine lv_aload_n F.1.1 F.1.2.1 dX6_sheet_40 rfl (lv_at hl 0 rfl) ?_
          refine gt_6_2 F hP 31 rfl inX6_sheet_6 kX6_sheet_9 dX6_sheet_41 ?_
          refine lv_iload_n F.1.1 F.1.2.1 dX6_sheet_44 rfl (lv_at hl 1 rfl) ?_
          refine lv_iload_n F.1.1 F.1.2.1 dX6_sheet_45 rfl (lv_at hl 2 rfl) ?_
          refine r_ias F hP hS 32 rfl rfl dX6_sheet_46 hf (fun μ_8 H locs hP hS hf => ?_)
          refine lv_aload_n F.1.1 F.1.2.1 dX6_sheet_47 rfl (lv_at hl 0 rfl) ?_
          refine gt_6_3 F hP 31 rfl inX6_sheet_6 kX6_sheet_13 dX6_sheet_48 ?_
          refine lv_iload_n F.1.1 F.1.2.1 dX6_sheet_51 rfl (lv_at hl 1 rfl) ?_
          refine lv_iload_n F.1.1 F.1.2.1 dX6_sheet_52 rfl (lv_at hl 3 rfl) ?_
          refine r_ias F hP hS 33 rfl rfl dX6_sheet_53 hf (fun μ_9 H locs hP hS hf => ?_)
          refine lv_iconst (v := (0 : Int32)) F.1.1 F.1.2.1 dX6_sheet_54 (by decide) ?_
          refine lv_istore (lv' := [(4, .int (0 : Int32)), (0, .ref (ga G 31)), (1, .int x1), (2, .int x2), (3, .int x3)]) F.1.1 F.1.2.1 dX6_sheet_55 hl (by decide) rfl (fun ls hl => ?_)
          exact lX6_sheet_L57 l G F x1 _ _ FU (0 : Int32) μ_9 H locs ls hP hS (lv_sub hl [1, 2, 0] rfl) hf
        · refine lv_aload_n F.1.1 F.1.2.1 dX6_sheet_34 rfl (lv_at hl 0 rfl) ?_
          refine lv_iconst (v := (4 : Int32)) F.1.1 F.1.2.1 dX6_sheet_35 (by decide) ?_
          obtain ⟨r_12, μ_10, hc_11, hf⟩ := bnd_some hf
          refine rV1 (R := rmX6_sheet) (As := [.int (4 : Int32)]) (rest := []) F hP hS hl (mX6_fails l G F.2.2.2.2 (4 : Int32) _ _ _ hc_11) gX6_sheet_X6_fails rfl hdX6_fails rfl rfl rfl ⟨Nat.le_of_ble_eq_true rfl, Nat.le_of_ble_eq_true rfl⟩ (by decide) rfl rfl rfl (Nat.le_of_ble_eq_true rfl) ⟨Nat.le_of_ble_eq_true rfl, Nat.le_of_ble_eq_true rfl⟩ dX6_sheet_36 (fun H locs hP hS => ?_)
          exact retI F hP hS dX6_sheet_39 hf
      · refine lv_bipush (v := (-2 : Int32)) F.1.1 F.1.2.1 dX6_sheet_27 (by decide) ?_
        exact retI F hP hS dX6_sheet_29 hf
  · refine lv_iconst (v := (-1 : Int32)) F.1.1 F.1.2.1 dX6_sheet_12 (by decide) ?_
    exact retI F hP hS dX6_sheet_13 hf
abbrev rmX6_lose : Room := { frames := 2, cells := 0, slots := 0, locals := 42 }
theorem hdX6_lose : yX6_lose.cls = RX6 ∧ yX6_lose.cls ≠ "java/lang/invoke/MethodHandle" ∧ yX6_lose.cls ≠ "java/lang/invoke/VarHandle" ∧ (parseMethodDescriptor yX6_lose.desc).map (fun d => d.parameters.length) = some 1 := by decide +kernel
theorem kX6_lose_9 : Cond.fieldLink RX6 9 "PaperLayersModel" "sorts" "[I" ∈ wsX6_lose := List.mem_cons_of_mem _ (List.mem_append_left _ (List.mem_of_getElem? (i := 0) rfl))
theorem inX6_lose_6 : ∀ w ∈ wsX60, w ∈ wsX6_lose := fun _ h => List.mem_cons_of_mem _ (List.mem_append_right _ (h))
set_option maxHeartbeats 4000000 in
set_option maxRecDepth 100000 in
theorem mX6_lose (l : Launch) (G : GT) (hG : GD G) (x1 : Int32) (μ : Mem) (r : Int32) (μ' : Mem) (hf : fX6_lose x1 μ = some (r, μ')) : Ct l yX6_lose wsX6_lose rmX6_lose G [.ref (ga G 31), .int x1] μ (some (.int r)) μ' := by
  refine Ct.of (cc := cX6_lose) (maxL := 3) (ret := (some .int)) (own := RX6) hG (by decide) rfl rfl (Nat.le_of_ble_eq_true rfl) ?_
  intro p e s m args below meth c ls H locs F hl hP hS
  have hl : lv_has ls 3 [(0, .ref (ga G 31)), (1, .int x1)] := hl
  unfold fX6_lose at hf
  refine lv_iload_n F.1.1 F.1.2.1 dX6_lose_0 rfl (lv_at hl 1 rfl) ?_
  obtain ⟨r_3, μ_1, hc_2, hf⟩ := bnd_some hf
  refine rS1 (R := rmX6_lose) (As := [.int x1]) (rest := []) F hP hS hl (mX6_isSheet l G F.2.2.2.2 x1 _ _ _ hc_2) gX6_lose_X6_isSheet hdX6_isSheet rfl rfl rfl ⟨Nat.le_of_ble_eq_true rfl, Nat.le_of_ble_eq_true rfl⟩ rfl rfl (Nat.le_of_ble_eq_true rfl) ⟨Nat.le_of_ble_eq_true rfl, Nat.le_of_ble_eq_true rfl⟩ dX6_lose_1 (fun H locs hP hS => ?_)
  refine jz_ne (tgt := 9) F dX6_lose_4 (by decide) hf (fun hf => ?_) (fun hf => ?_)
  · refine lv_aload_n F.1.1 F.1.2.1 dX6_lose_9 rfl (lv_at hl 0 rfl) ?_
    refine gt_6_2 F hP 31 rfl inX6_lose_6 kX6_lose_9 dX6_lose_10 ?_
    refine lv_iload_n F.1.1 F.1.2.1 dX6_lose_13 rfl (lv_at hl 1 rfl) ?_
    refine r_ial F hP 32 rfl rfl dX6_lose_14 hf (fun hf => ?_)
    refine lv_bipush (v := (-9 : Int32)) F.1.1 F.1.2.1 dX6_lose_15 (by decide) ?_
    refine jc_ne (tgt := 24) F dX6_lose_17 (by decide) hf (fun hf => ?_) (fun hf => ?_)
    · refine lv_iconst (v := (1 : Int32)) F.1.1 F.1.2.1 dX6_lose_24 (by decide) ?_
      refine lv_istore_n (lv' := [(2, .int (1 : Int32)), (0, .ref (ga G 31)), (1, .int x1)]) F.1.1 F.1.2.1 dX6_lose_25 rfl hl (by decide) rfl (fun ls hl => ?_)
      refine lv_aload_n F.1.1 F.1.2.1 dX6_lose_26 rfl (lv_at hl 1 rfl) ?_
      refine gt_6_2 F hP 31 rfl inX6_lose_6 kX6_lose_9 dX6_lose_27 ?_
      refine lv_iload_n F.1.1 F.1.2.1 dX6_lose_30 rfl (lv_at hl 2 rfl) ?_
      refine lv_bipush (v := (-9 : Int32)) F.1.1 F.1.2.1 dX6_lose_31 (by decide) ?_
      refine r_ias F hP hS 32 rfl rfl dX6_lose_33 hf (fun μ_4 H locs hP hS hf => ?_)
      refine lv_iload_n F.1.1 F.1.2.1 dX6_lose_34 rfl (lv_at hl 0 rfl) ?_
      exact retI F hP hS dX6_lose_35 hf
    · refine lv_iconst (v := (0 : Int32)) F.1.1 F.1.2.1 dX6_lose_20 (by decide) ?_
      refine lv_goto (tgt := 25) F.1.1 F.1.2.1 dX6_lose_21 (by decide) ?_
      refine lv_istore_n (lv' := [(2, .int (0 : Int32)), (0, .ref (ga G 31)), (1, .int x1)]) F.1.1 F.1.2.1 dX6_lose_25 rfl hl (by decide) rfl (fun ls hl => ?_)
      refine lv_aload_n F.1.1 F.1.2.1 dX6_lose_26 rfl (lv_at hl 1 rfl) ?_
      refine gt_6_2 F hP 31 rfl inX6_lose_6 kX6_lose_9 dX6_lose_27 ?_
      refine lv_iload_n F.1.1 F.1.2.1 dX6_lose_30 rfl (lv_at hl 2 rfl) ?_
      refine lv_bipush (v := (-9 : Int32)) F.1.1 F.1.2.1 dX6_lose_31 (by decide) ?_
      refine r_ias F hP hS 32 rfl rfl dX6_lose_33 hf (fun μ_5 H locs hP hS hf => ?_)
      refine lv_iload_n F.1.1 F.1.2.1 dX6_lose_34 rfl (lv_at hl 0 rfl) ?_
      exact retI F hP hS dX6_lose_35 hf
  · refine lv_iconst (v := (-1 : Int32)) F.1.1 F.1.2.1 dX6_lose_7 (by decide) ?_
    exact retI F hP hS dX6_lose_8 hf
abbrev rmX6_put : Room := { frames := 2, cells := 0, slots := 0, locals := 42 }
theorem hdX6_put : yX6_put.cls = RX6 ∧ yX6_put.cls ≠ "java/lang/invoke/MethodHandle" ∧ yX6_put.cls ≠ "java/lang/invoke/VarHandle" ∧ (parseMethodDescriptor yX6_put.desc).map (fun d => d.parameters.length) = some 3 := by decide +kernel
theorem kX6_put_13 : Cond.fieldLink RX6 13 "PaperLayersModel" "sheetLong" "[I" ∈ wsX6_put := List.mem_cons_of_mem _ (List.mem_append_left _ (List.mem_of_getElem? (i := 2) rfl))
theorem kX6_put_16 : Cond.fieldLink RX6 16 "PaperLayersModel" "cells" "[I" ∈ wsX6_put := List.mem_cons_of_mem _ (List.mem_append_left _ (List.mem_of_getElem? (i := 3) rfl))
theorem kX6_put_46 : Cond.fieldLink RX6 46 "PaperLayersModel" "fault" "I" ∈ wsX6_put := List.mem_cons_of_mem _ (List.mem_append_left _ (List.mem_of_getElem? (i := 0) rfl))
theorem kX6_put_9 : Cond.fieldLink RX6 9 "PaperLayersModel" "sorts" "[I" ∈ wsX6_put := List.mem_cons_of_mem _ (List.mem_append_left _ (List.mem_of_getElem? (i := 1) rfl))
theorem inX6_put_6 : ∀ w ∈ wsX60, w ∈ wsX6_put := fun _ h => List.mem_cons_of_mem _ (List.mem_append_right _ (h))
set_option maxHeartbeats 4000000 in
set_option maxRecDepth 100000 in
theorem mX6_put (l : Launch) (G : GT) (hG : GD G) (x1 : Int32) (x2 : Int32) (x3 : Int32) (μ : Mem) (r : Int32) (μ' : Mem) (hf : fX6_put x1 x2 x3 μ = some (r, μ')) : Ct l yX6_put wsX6_put rmX6_put G [.ref (ga G 31), .int x1, .int x2, .int x3] μ (some (.int r)) μ' := by
  refine Ct.of (cc := cX6_put) (maxL := 4) (ret := (some .int)) (own := RX6) hG (by decide) rfl rfl (Nat.le_of_ble_eq_true rfl) ?_
  intro p e s m args below meth c ls H locs F hl hP hS
  have hl : lv_has ls 4 [(0, .ref (ga G 31)), (1, .int x1), (2, .int x2), (3, .int x3)] := hl
  unfold fX6_put at hf
  refine lv_aload_n F.1.1 F.1.2.1 dX6_put_0 rfl (lv_at hl 0 rfl) ?_
  refine lv_iconst (v := (0 : Int32)) F.1.1 F.1.2.1 dX6_put_1 (by decide) ?_
  refine pt_6_0 F hP hS 31 rfl inX6_put_6 kX6_put_46 dX6_put_2 hf (fun μ_1 H locs hP hS hf => ?_)
  refine lv_iload_n F.1.1 F.1.2.1 dX6_put_5 rfl (lv_at hl 1 rfl) ?_
  obtain ⟨r_4, μ_2, hc_3, hf⟩ := bnd_some hf
  refine rS1 (R := rmX6_put) (As := [.int x1]) (rest := []) F hP hS hl (mX6_isSheet l G F.2.2.2.2 x1 _ _ _ hc_3) gX6_put_X6_isSheet hdX6_isSheet rfl rfl rfl ⟨Nat.le_of_ble_eq_true rfl, Nat.le_of_ble_eq_true rfl⟩ rfl rfl (Nat.le_of_ble_eq_true rfl) ⟨Nat.le_of_ble_eq_true rfl, Nat.le_of_ble_eq_true rfl⟩ dX6_put_6 (fun H locs hP hS => ?_)
  refine jz_ne (tgt := 14) F dX6_put_9 (by decide) hf (fun hf => ?_) (fun hf => ?_)
  · refine lv_aload_n F.1.1 F.1.2.1 dX6_put_14 rfl (lv_at hl 0 rfl) ?_
    refine gt_6_2 F hP 31 rfl inX6_put_6 kX6_put_9 dX6_put_15 ?_
    refine lv_iload_n F.1.1 F.1.2.1 dX6_put_18 rfl (lv_at hl 1 rfl) ?_
    refine r_ial F hP 32 rfl rfl dX6_put_19 hf (fun hf => ?_)
    refine lv_bipush (v := (-9 : Int32)) F.1.1 F.1.2.1 dX6_put_20 (by decide) ?_
    refine jc_ne (tgt := 31) F dX6_put_22 (by decide) hf (fun hf => ?_) (fun hf => ?_)
    · refine lv_iload_n F.1.1 F.1.2.1 dX6_put_31 rfl (lv_at hl 2 rfl) ?_
      refine lv_iconst (v := (0 : Int32)) F.1.1 F.1.2.1 dX6_put_32 (by decide) ?_
      refine lv_aload_n F.1.1 F.1.2.1 dX6_put_33 rfl (lv_at hl 0 rfl) ?_
      refine gt_6_3 F hP 31 rfl inX6_put_6 kX6_put_13 dX6_put_34 ?_
      refine lv_iload_n F.1.1 F.1.2.1 dX6_put_37 rfl (lv_at hl 1 rfl) ?_
      refine r_ial F hP 33 rfl rfl dX6_put_38 hf (fun hf => ?_)
      refine lv_iconst (v := (1 : Int32)) F.1.1 F.1.2.1 dX6_put_39 (by decide) ?_
      refine lv_isub F.1.1 F.1.2.1 dX6_put_40 ?_
      obtain ⟨r_7, μ_5, hc_6, hf⟩ := bnd_some hf
      refine rS1 (R := rmX6_put) (As := [.int x2, .int (0 : Int32), .int ((μ_2 33 (x1).toNatClampNeg) - (1 : Int32))]) (rest := []) F hP hS hl (mX6_within l G F.2.2.2.2 x2 (0 : Int32) ((μ_2 33 (x1).toNatClampNeg) - (1 : Int32)) _ _ _ hc_6) gX6_put_X6_within hdX6_within rfl rfl rfl ⟨Nat.le_of_ble_eq_true rfl, Nat.le_of_ble_eq_true rfl⟩ rfl rfl (Nat.le_of_ble_eq_true rfl) ⟨Nat.le_of_ble_eq_true rfl, Nat.le_of_ble_eq_true rfl⟩ dX6_put_41 (fun H locs hP hS => ?_)
      refine jz_ne (tgt := 53) F dX6_put_44 (by decide) hf (fun hf => ?_) (fun hf => ?_)
      · refine lv_aload_n F.1.1 F.1.2.1 dX6_put_53 rfl (lv_at hl 0 rfl) ?_
        refine gt_6_4 F hP 31 rfl inX6_put_6 kX6_put_16 dX6_put_54 ?_
        refine lv_bipush (v := (60 : Int32)) F.1.1 F.1.2.1 dX6_put_57 (by decide) ?_
        refine lv_iload_n F.1.1 F.1.2.1 dX6_put_59 rfl (lv_at hl 1 rfl) ?_
        refine lv_imul F.1.1 F.1.2.1 dX6_put_60 ?_
        refine lv_iload_n F.1.1 F.1.2.1 dX6_put_61 rfl (lv_at hl 2 rfl) ?_
        refine lv_iadd F.1.1 F.1.2.1 dX6_put_62 ?_
        refine lv_aload_n F.1.1 F.1.2.1 dX6_put_63 rfl (lv_at hl 0 rfl) ?_
        refine gt_6_2 F hP 31 rfl inX6_put_6 kX6_put_9 dX6_put_64 ?_
        refine lv_iload_n F.1.1 F.1.2.1 dX6_put_67 rfl (lv_at hl 1 rfl) ?_
        refine r_ial F hP 32 rfl rfl dX6_put_68 hf (fun hf => ?_)
        refine jz_ne (tgt := 77) F dX6_put_69 (by decide) hf (fun hf => ?_) (fun hf => ?_)
        · refine lv_aload_n F.1.1 F.1.2.1 dX6_put_77 rfl (lv_at hl 0 rfl) ?_
          refine gt_6_2 F hP 31 rfl inX6_put_6 kX6_put_9 dX6_put_78 ?_
          refine lv_iload_n F.1.1 F.1.2.1 dX6_put_81 rfl (lv_at hl 1 rfl) ?_
          refine r_ial F hP 32 rfl rfl dX6_put_82 hf (fun hf => ?_)
          refine lv_iconst (v := (1 : Int32)) F.1.1 F.1.2.1 dX6_put_83 (by decide) ?_
          refine jc_ne (tgt := 92) F dX6_put_84 (by decide) hf (fun hf => ?_) (fun hf => ?_)
          · refine lv_iload_n F.1.1 F.1.2.1 dX6_put_92 rfl (lv_at hl 3 rfl) ?_
            refine r_ias F hP hS 34 rfl rfl dX6_put_93 hf (fun μ_8 H locs hP hS hf => ?_)
            refine lv_iconst (v := (1 : Int32)) F.1.1 F.1.2.1 dX6_put_94 (by decide) ?_
            exact retI F hP hS dX6_put_95 hf
          · refine lv_iload_n F.1.1 F.1.2.1 dX6_put_87 rfl (lv_at hl 3 rfl) ?_
            refine lv_i2s F.1.1 F.1.2.1 dX6_put_88 rfl ?_
            refine lv_goto (tgt := 93) F.1.1 F.1.2.1 dX6_put_89 (by decide) ?_
            refine r_ias F hP hS 34 rfl rfl dX6_put_93 hf (fun μ_9 H locs hP hS hf => ?_)
            refine lv_iconst (v := (1 : Int32)) F.1.1 F.1.2.1 dX6_put_94 (by decide) ?_
            exact retI F hP hS dX6_put_95 hf
        · refine lv_iload_n F.1.1 F.1.2.1 dX6_put_72 rfl (lv_at hl 3 rfl) ?_
          refine lv_i2b F.1.1 F.1.2.1 dX6_put_73 rfl ?_
          refine lv_goto (tgt := 93) F.1.1 F.1.2.1 dX6_put_74 (by decide) ?_
          refine r_ias F hP hS 34 rfl rfl dX6_put_93 hf (fun μ_10 H locs hP hS hf => ?_)
          refine lv_iconst (v := (1 : Int32)) F.1.1 F.1.2.1 dX6_put_94 (by decide) ?_
          exact retI F hP hS dX6_put_95 hf
      · refine lv_aload_n F.1.1 F.1.2.1 dX6_put_47 rfl (lv_at hl 0 rfl) ?_
        refine lv_iconst (v := (3 : Int32)) F.1.1 F.1.2.1 dX6_put_48 (by decide) ?_
        obtain ⟨r_13, μ_11, hc_12, hf⟩ := bnd_some hf
        refine rV1 (R := rmX6_put) (As := [.int (3 : Int32)]) (rest := []) F hP hS hl (mX6_fails l G F.2.2.2.2 (3 : Int32) _ _ _ hc_12) gX6_put_X6_fails rfl hdX6_fails rfl rfl rfl ⟨Nat.le_of_ble_eq_true rfl, Nat.le_of_ble_eq_true rfl⟩ (by decide) rfl rfl rfl (Nat.le_of_ble_eq_true rfl) ⟨Nat.le_of_ble_eq_true rfl, Nat.le_of_ble_eq_true rfl⟩ dX6_put_49 (fun H locs hP hS => ?_)
        exact retI F hP hS dX6_put_52 hf
    · refine lv_aload_n F.1.1 F.1.2.1 dX6_put_25 rfl (lv_at hl 0 rfl) ?_
      refine lv_iconst (v := (1 : Int32)) F.1.1 F.1.2.1 dX6_put_26 (by decide) ?_
      obtain ⟨r_16, μ_14, hc_15, hf⟩ := bnd_some hf
      refine rV1 (R := rmX6_put) (As := [.int (1 : Int32)]) (rest := []) F hP hS hl (mX6_fails l G F.2.2.2.2 (1 : Int32) _ _ _ hc_15) gX6_put_X6_fails rfl hdX6_fails rfl rfl rfl ⟨Nat.le_of_ble_eq_true rfl, Nat.le_of_ble_eq_true rfl⟩ (by decide) rfl rfl rfl (Nat.le_of_ble_eq_true rfl) ⟨Nat.le_of_ble_eq_true rfl, Nat.le_of_ble_eq_true rfl⟩ dX6_put_27 (fun H locs hP hS => ?_)
      exact retI F hP hS dX6_put_30 hf
  · refine lv_iconst (v := (-1 : Int32)) F.1.1 F.1.2.1 dX6_put_12 (by decide) ?_
    exact retI F hP hS dX6_put_13 hf
abbrev rmX6_cell : Room := { frames := 2, cells := 0, slots := 0, locals := 42 }
theorem hdX6_cell : yX6_cell.cls = RX6 ∧ yX6_cell.cls ≠ "java/lang/invoke/MethodHandle" ∧ yX6_cell.cls ≠ "java/lang/invoke/VarHandle" ∧ (parseMethodDescriptor yX6_cell.desc).map (fun d => d.parameters.length) = some 3 := by decide +kernel
theorem kX6_cell_13 : Cond.fieldLink RX6 13 "PaperLayersModel" "sheetLong" "[I" ∈ wsX6_cell := List.mem_cons_of_mem _ (List.mem_append_left _ (List.mem_of_getElem? (i := 3) rfl))
theorem kX6_cell_16 : Cond.fieldLink RX6 16 "PaperLayersModel" "cells" "[I" ∈ wsX6_cell := List.mem_cons_of_mem _ (List.mem_append_left _ (List.mem_of_getElem? (i := 4) rfl))
theorem kX6_cell_46 : Cond.fieldLink RX6 46 "PaperLayersModel" "fault" "I" ∈ wsX6_cell := List.mem_cons_of_mem _ (List.mem_append_left _ (List.mem_of_getElem? (i := 0) rfl))
theorem kX6_cell_50 : Cond.constantLong RX6 50 (-9223372036854775808) ∈ wsX6_cell := List.mem_cons_of_mem _ (List.mem_append_left _ (List.mem_of_getElem? (i := 1) rfl))
theorem kX6_cell_9 : Cond.fieldLink RX6 9 "PaperLayersModel" "sorts" "[I" ∈ wsX6_cell := List.mem_cons_of_mem _ (List.mem_append_left _ (List.mem_of_getElem? (i := 2) rfl))
theorem inX6_cell_6 : ∀ w ∈ wsX60, w ∈ wsX6_cell := fun _ h => List.mem_cons_of_mem _ (List.mem_append_right _ (h))
set_option maxHeartbeats 4000000 in
set_option maxRecDepth 100000 in
theorem mX6_cell (l : Launch) (G : GT) (hG : GD G) (x1 : Int32) (x2 : Int32) (x3 : Int32) (μ : Mem) (r : Int64) (μ' : Mem) (hf : fX6_cell x1 x2 x3 μ = some (r, μ')) : Ct l yX6_cell wsX6_cell rmX6_cell G [.ref (ga G 31), .int x1, .int x2, .int x3] μ (some (.long r)) μ' := by
  refine Ct.of (cc := cX6_cell) (maxL := 4) (ret := (some .long)) (own := RX6) hG (by decide) rfl rfl (Nat.le_of_ble_eq_true rfl) ?_
  intro p e s m args below meth c ls H locs F hl hP hS
  have hl : lv_has ls 4 [(0, .ref (ga G 31)), (1, .int x1), (2, .int x2), (3, .int x3)] := hl
  unfold fX6_cell at hf
  refine lv_aload_n F.1.1 F.1.2.1 dX6_cell_0 rfl (lv_at hl 0 rfl) ?_
  refine lv_iconst (v := (0 : Int32)) F.1.1 F.1.2.1 dX6_cell_1 (by decide) ?_
  refine pt_6_0 F hP hS 31 rfl inX6_cell_6 kX6_cell_46 dX6_cell_2 hf (fun μ_1 H locs hP hS hf => ?_)
  refine lv_iload_n F.1.1 F.1.2.1 dX6_cell_5 rfl (lv_at hl 1 rfl) ?_
  obtain ⟨r_4, μ_2, hc_3, hf⟩ := bnd_some hf
  refine rS1 (R := rmX6_cell) (As := [.int x1]) (rest := []) F hP hS hl (mX6_isSheet l G F.2.2.2.2 x1 _ _ _ hc_3) gX6_cell_X6_isSheet hdX6_isSheet rfl rfl rfl ⟨Nat.le_of_ble_eq_true rfl, Nat.le_of_ble_eq_true rfl⟩ rfl rfl (Nat.le_of_ble_eq_true rfl) ⟨Nat.le_of_ble_eq_true rfl, Nat.le_of_ble_eq_true rfl⟩ dX6_cell_6 (fun H locs hP hS => ?_)
  refine jz_eq (tgt := 19) F dX6_cell_9 (by decide) hf (fun hf => ?_) (fun hf => ?_)
  · refine lv_ldc2 (v := (-9223372036854775808 : Int64)) F.1.1 F.1.2.1 F.1.2.2.2.1 (F.1.2.2.2.2 _ kX6_cell_50) dX6_cell_19 ?_
    exact retL F hP hS dX6_cell_22 hf
  · refine lv_iload_n F.1.1 F.1.2.1 dX6_cell_12 rfl (lv_at hl 3 rfl) ?_
    obtain ⟨r_7, μ_5, hc_6, hf⟩ := bnd_some hf
    refine rS1 (R := rmX6_cell) (As := [.int x3]) (rest := []) F hP hS hl (mX6_isSort l G F.2.2.2.2 x3 _ _ _ hc_6) gX6_cell_X6_isSort hdX6_isSort rfl rfl rfl ⟨Nat.le_of_ble_eq_true rfl, Nat.le_of_ble_eq_true rfl⟩ rfl rfl (Nat.le_of_ble_eq_true rfl) ⟨Nat.le_of_ble_eq_true rfl, Nat.le_of_ble_eq_true rfl⟩ dX6_cell_13 (fun H locs hP hS => ?_)
    refine jz_ne (tgt := 23) F dX6_cell_16 (by decide) hf (fun hf => ?_) (fun hf => ?_)
    · refine lv_aload_n F.1.1 F.1.2.1 dX6_cell_23 rfl (lv_at hl 0 rfl) ?_
      refine gt_6_2 F hP 31 rfl inX6_cell_6 kX6_cell_9 dX6_cell_24 ?_
      refine lv_iload_n F.1.1 F.1.2.1 dX6_cell_27 rfl (lv_at hl 1 rfl) ?_
      refine r_ial F hP 32 rfl rfl dX6_cell_28 hf (fun hf => ?_)
      refine lv_bipush (v := (-9 : Int32)) F.1.1 F.1.2.1 dX6_cell_29 (by decide) ?_
      refine jc_eq (tgt := 50) F dX6_cell_31 (by decide) hf (fun hf => ?_) (fun hf => ?_)
      · refine lv_aload_n F.1.1 F.1.2.1 dX6_cell_50 rfl (lv_at hl 0 rfl) ?_
        refine gt_6_2 F hP 31 rfl inX6_cell_6 kX6_cell_9 dX6_cell_51 ?_
        refine lv_iload_n F.1.1 F.1.2.1 dX6_cell_54 rfl (lv_at hl 1 rfl) ?_
        refine r_ial F hP 32 rfl rfl dX6_cell_55 hf (fun hf => ?_)
        refine lv_bipush (v := (-9 : Int32)) F.1.1 F.1.2.1 dX6_cell_56 (by decide) ?_
        refine jc_ne (tgt := 67) F dX6_cell_58 (by decide) hf (fun hf => ?_) (fun hf => ?_)
        · refine lv_iload_n F.1.1 F.1.2.1 dX6_cell_67 rfl (lv_at hl 2 rfl) ?_
          refine lv_iconst (v := (0 : Int32)) F.1.1 F.1.2.1 dX6_cell_68 (by decide) ?_
          refine lv_aload_n F.1.1 F.1.2.1 dX6_cell_69 rfl (lv_at hl 0 rfl) ?_
          refine gt_6_3 F hP 31 rfl inX6_cell_6 kX6_cell_13 dX6_cell_70 ?_
          refine lv_iload_n F.1.1 F.1.2.1 dX6_cell_73 rfl (lv_at hl 1 rfl) ?_
          refine r_ial F hP 33 rfl rfl dX6_cell_74 hf (fun hf => ?_)
          refine lv_iconst (v := (1 : Int32)) F.1.1 F.1.2.1 dX6_cell_75 (by decide) ?_
          refine lv_isub F.1.1 F.1.2.1 dX6_cell_76 ?_
          obtain ⟨r_10, μ_8, hc_9, hf⟩ := bnd_some hf
          refine rS1 (R := rmX6_cell) (As := [.int x2, .int (0 : Int32), .int ((μ_5 33 (x1).toNatClampNeg) - (1 : Int32))]) (rest := []) F hP hS hl (mX6_within l G F.2.2.2.2 x2 (0 : Int32) ((μ_5 33 (x1).toNatClampNeg) - (1 : Int32)) _ _ _ hc_9) gX6_cell_X6_within hdX6_within rfl rfl rfl ⟨Nat.le_of_ble_eq_true rfl, Nat.le_of_ble_eq_true rfl⟩ rfl rfl (Nat.le_of_ble_eq_true rfl) ⟨Nat.le_of_ble_eq_true rfl, Nat.le_of_ble_eq_true rfl⟩ dX6_cell_77 (fun H locs hP hS => ?_)
          refine jz_ne (tgt := 89) F dX6_cell_80 (by decide) hf (fun hf => ?_) (fun hf => ?_)
          · refine lv_aload_n F.1.1 F.1.2.1 dX6_cell_89 rfl (lv_at hl 0 rfl) ?_
            refine gt_6_4 F hP 31 rfl inX6_cell_6 kX6_cell_16 dX6_cell_90 ?_
            refine lv_bipush (v := (60 : Int32)) F.1.1 F.1.2.1 dX6_cell_93 (by decide) ?_
            refine lv_iload_n F.1.1 F.1.2.1 dX6_cell_95 rfl (lv_at hl 1 rfl) ?_
            refine lv_imul F.1.1 F.1.2.1 dX6_cell_96 ?_
            refine lv_iload_n F.1.1 F.1.2.1 dX6_cell_97 rfl (lv_at hl 2 rfl) ?_
            refine lv_iadd F.1.1 F.1.2.1 dX6_cell_98 ?_
            refine r_ial F hP 34 rfl rfl dX6_cell_99 hf (fun hf => ?_)
            refine lv_i2l F.1.1 F.1.2.1 dX6_cell_100 rfl ?_
            exact retL F hP hS dX6_cell_101 hf
          · refine lv_aload_n F.1.1 F.1.2.1 dX6_cell_83 rfl (lv_at hl 0 rfl) ?_
            refine lv_iconst (v := (3 : Int32)) F.1.1 F.1.2.1 dX6_cell_84 (by decide) ?_
            obtain ⟨r_13, μ_11, hc_12, hf⟩ := bnd_some hf
            refine rV1 (R := rmX6_cell) (As := [.int (3 : Int32)]) (rest := []) F hP hS hl (mX6_lost l G F.2.2.2.2 (3 : Int32) _ _ _ hc_12) gX6_cell_X6_lost rfl hdX6_lost rfl rfl rfl ⟨Nat.le_of_ble_eq_true rfl, Nat.le_of_ble_eq_true rfl⟩ (by decide) rfl rfl rfl (Nat.le_of_ble_eq_true rfl) ⟨Nat.le_of_ble_eq_true rfl, Nat.le_of_ble_eq_true rfl⟩ dX6_cell_85 (fun H locs hP hS => ?_)
            exact retL F hP hS dX6_cell_88 hf
        · refine lv_aload_n F.1.1 F.1.2.1 dX6_cell_61 rfl (lv_at hl 0 rfl) ?_
          refine lv_iconst (v := (1 : Int32)) F.1.1 F.1.2.1 dX6_cell_62 (by decide) ?_
          obtain ⟨r_16, μ_14, hc_15, hf⟩ := bnd_some hf
          refine rV1 (R := rmX6_cell) (As := [.int (1 : Int32)]) (rest := []) F hP hS hl (mX6_lost l G F.2.2.2.2 (1 : Int32) _ _ _ hc_15) gX6_cell_X6_lost rfl hdX6_lost rfl rfl rfl ⟨Nat.le_of_ble_eq_true rfl, Nat.le_of_ble_eq_true rfl⟩ (by decide) rfl rfl rfl (Nat.le_of_ble_eq_true rfl) ⟨Nat.le_of_ble_eq_true rfl, Nat.le_of_ble_eq_true rfl⟩ dX6_cell_63 (fun H locs hP hS => ?_)
          exact retL F hP hS dX6_cell_66 hf
      · refine lv_aload_n F.1.1 F.1.2.1 dX6_cell_34 rfl (lv_at hl 0 rfl) ?_
        refine gt_6_2 F hP 31 rfl inX6_cell_6 kX6_cell_9 dX6_cell_35 ?_
        refine lv_iload_n F.1.1 F.1.2.1 dX6_cell_38 rfl (lv_at hl 1 rfl) ?_
        refine r_ial F hP 32 rfl rfl dX6_cell_39 hf (fun hf => ?_)
        refine lv_iload_n F.1.1 F.1.2.1 dX6_cell_40 rfl (lv_at hl 3 rfl) ?_
        refine jc_eq (tgt := 50) F dX6_cell_41 (by decide) hf (fun hf => ?_) (fun hf => ?_)
        · refine lv_aload_n F.1.1 F.1.2.1 dX6_cell_50 rfl (lv_at hl 0 rfl) ?_
          refine gt_6_2 F hP 31 rfl inX6_cell_6 kX6_cell_9 dX6_cell_51 ?_
          refine lv_iload_n F.1.1 F.1.2.1 dX6_cell_54 rfl (lv_at hl 1 rfl) ?_
          refine r_ial F hP 32 rfl rfl dX6_cell_55 hf (fun hf => ?_)
          refine lv_bipush (v := (-9 : Int32)) F.1.1 F.1.2.1 dX6_cell_56 (by decide) ?_
          refine jc_ne (tgt := 67) F dX6_cell_58 (by decide) hf (fun hf => ?_) (fun hf => ?_)
          · refine lv_iload_n F.1.1 F.1.2.1 dX6_cell_67 rfl (lv_at hl 2 rfl) ?_
            refine lv_iconst (v := (0 : Int32)) F.1.1 F.1.2.1 dX6_cell_68 (by decide) ?_
            refine lv_aload_n F.1.1 F.1.2.1 dX6_cell_69 rfl (lv_at hl 0 rfl) ?_
            refine gt_6_3 F hP 31 rfl inX6_cell_6 kX6_cell_13 dX6_cell_70 ?_
            refine lv_iload_n F.1.1 F.1.2.1 dX6_cell_73 rfl (lv_at hl 1 rfl) ?_
            refine r_ial F hP 33 rfl rfl dX6_cell_74 hf (fun hf => ?_)
            refine lv_iconst (v := (1 : Int32)) F.1.1 F.1.2.1 dX6_cell_75 (by decide) ?_
            refine lv_isub F.1.1 F.1.2.1 dX6_cell_76 ?_
            obtain ⟨r_19, μ_17, hc_18, hf⟩ := bnd_some hf
            refine rS1 (R := rmX6_cell) (As := [.int x2, .int (0 : Int32), .int ((μ_5 33 (x1).toNatClampNeg) - (1 : Int32))]) (rest := []) F hP hS hl (mX6_within l G F.2.2.2.2 x2 (0 : Int32) ((μ_5 33 (x1).toNatClampNeg) - (1 : Int32)) _ _ _ hc_18) gX6_cell_X6_within hdX6_within rfl rfl rfl ⟨Nat.le_of_ble_eq_true rfl, Nat.le_of_ble_eq_true rfl⟩ rfl rfl (Nat.le_of_ble_eq_true rfl) ⟨Nat.le_of_ble_eq_true rfl, Nat.le_of_ble_eq_true rfl⟩ dX6_cell_77 (fun H locs hP hS => ?_)
            refine jz_ne (tgt := 89) F dX6_cell_80 (by decide) hf (fun hf => ?_) (fun hf => ?_)
            · refine lv_aload_n F.1.1 F.1.2.1 dX6_cell_89 rfl (lv_at hl 0 rfl) ?_
              refine gt_6_4 F hP 31 rfl inX6_cell_6 kX6_cell_16 dX6_cell_90 ?_
              refine lv_bipush (v := (60 : Int32)) F.1.1 F.1.2.1 dX6_cell_93 (by decide) ?_
              refine lv_iload_n F.1.1 F.1.2.1 dX6_cell_95 rfl (lv_at hl 1 rfl) ?_
              refine lv_imul F.1.1 F.1.2.1 dX6_cell_96 ?_
              refine lv_iload_n F.1.1 F.1.2.1 dX6_cell_97 rfl (lv_at hl 2 rfl) ?_
              refine lv_iadd F.1.1 F.1.2.1 dX6_cell_98 ?_
              refine r_ial F hP 34 rfl rfl dX6_cell_99 hf (fun hf => ?_)
              refine lv_i2l F.1.1 F.1.2.1 dX6_cell_100 rfl ?_
              exact retL F hP hS dX6_cell_101 hf
            · refine lv_aload_n F.1.1 F.1.2.1 dX6_cell_83 rfl (lv_at hl 0 rfl) ?_
              refine lv_iconst (v := (3 : Int32)) F.1.1 F.1.2.1 dX6_cell_84 (by decide) ?_
              obtain ⟨r_22, μ_20, hc_21, hf⟩ := bnd_some hf
              refine rV1 (R := rmX6_cell) (As := [.int (3 : Int32)]) (rest := []) F hP hS hl (mX6_lost l G F.2.2.2.2 (3 : Int32) _ _ _ hc_21) gX6_cell_X6_lost rfl hdX6_lost rfl rfl rfl ⟨Nat.le_of_ble_eq_true rfl, Nat.le_of_ble_eq_true rfl⟩ (by decide) rfl rfl rfl (Nat.le_of_ble_eq_true rfl) ⟨Nat.le_of_ble_eq_true rfl, Nat.le_of_ble_eq_true rfl⟩ dX6_cell_85 (fun H locs hP hS => ?_)
              exact retL F hP hS dX6_cell_88 hf
          · refine lv_aload_n F.1.1 F.1.2.1 dX6_cell_61 rfl (lv_at hl 0 rfl) ?_
            refine lv_iconst (v := (1 : Int32)) F.1.1 F.1.2.1 dX6_cell_62 (by decide) ?_
            obtain ⟨r_25, μ_23, hc_24, hf⟩ := bnd_some hf
            refine rV1 (R := rmX6_cell) (As := [.int (1 : Int32)]) (rest := []) F hP hS hl (mX6_lost l G F.2.2.2.2 (1 : Int32) _ _ _ hc_24) gX6_cell_X6_lost rfl hdX6_lost rfl rfl rfl ⟨Nat.le_of_ble_eq_true rfl, Nat.le_of_ble_eq_true rfl⟩ (by decide) rfl rfl rfl (Nat.le_of_ble_eq_true rfl) ⟨Nat.le_of_ble_eq_true rfl, Nat.le_of_ble_eq_true rfl⟩ dX6_cell_63 (fun H locs hP hS => ?_)
            exact retL F hP hS dX6_cell_66 hf
        · refine lv_aload_n F.1.1 F.1.2.1 dX6_cell_44 rfl (lv_at hl 0 rfl) ?_
          refine lv_iconst (v := (2 : Int32)) F.1.1 F.1.2.1 dX6_cell_45 (by decide) ?_
          obtain ⟨r_28, μ_26, hc_27, hf⟩ := bnd_some hf
          refine rV1 (R := rmX6_cell) (As := [.int (2 : Int32)]) (rest := []) F hP hS hl (mX6_lost l G F.2.2.2.2 (2 : Int32) _ _ _ hc_27) gX6_cell_X6_lost rfl hdX6_lost rfl rfl rfl ⟨Nat.le_of_ble_eq_true rfl, Nat.le_of_ble_eq_true rfl⟩ (by decide) rfl rfl rfl (Nat.le_of_ble_eq_true rfl) ⟨Nat.le_of_ble_eq_true rfl, Nat.le_of_ble_eq_true rfl⟩ dX6_cell_46 (fun H locs hP hS => ?_)
          exact retL F hP hS dX6_cell_49 hf
    · refine lv_ldc2 (v := (-9223372036854775808 : Int64)) F.1.1 F.1.2.1 F.1.2.2.2.1 (F.1.2.2.2.2 _ kX6_cell_50) dX6_cell_19 ?_
      exact retL F hP hS dX6_cell_22 hf
abbrev rmX6_copy : Room := { frames := 2, cells := 0, slots := 0, locals := 42 }
theorem hdX6_copy : yX6_copy.cls = RX6 ∧ yX6_copy.cls ≠ "java/lang/invoke/MethodHandle" ∧ yX6_copy.cls ≠ "java/lang/invoke/VarHandle" ∧ (parseMethodDescriptor yX6_copy.desc).map (fun d => d.parameters.length) = some 5 := by decide +kernel
theorem kX6_copy_13 : Cond.fieldLink RX6 13 "PaperLayersModel" "sheetLong" "[I" ∈ wsX6_copy := List.mem_cons_of_mem _ (List.mem_append_left _ (List.mem_of_getElem? (i := 2) rfl))
theorem kX6_copy_16 : Cond.fieldLink RX6 16 "PaperLayersModel" "cells" "[I" ∈ wsX6_copy := List.mem_cons_of_mem _ (List.mem_append_left _ (List.mem_of_getElem? (i := 3) rfl))
theorem kX6_copy_46 : Cond.fieldLink RX6 46 "PaperLayersModel" "fault" "I" ∈ wsX6_copy := List.mem_cons_of_mem _ (List.mem_append_left _ (List.mem_of_getElem? (i := 0) rfl))
theorem kX6_copy_9 : Cond.fieldLink RX6 9 "PaperLayersModel" "sorts" "[I" ∈ wsX6_copy := List.mem_cons_of_mem _ (List.mem_append_left _ (List.mem_of_getElem? (i := 1) rfl))
theorem inX6_copy_6 : ∀ w ∈ wsX60, w ∈ wsX6_copy := fun _ h => List.mem_cons_of_mem _ (List.mem_append_right _ (h))
set_option maxHeartbeats 4000000 in
set_option maxRecDepth 100000 in
theorem lX6_copy_L166 (l : Launch) (G : GT) {p : Program} {e : Env} {s : State} {m : MethodId} {args : Array Value} {below : List Frame} {meth : Method} {c : Code} (F : Fx p s m args meth c cX6_copy 10 wsX6_copy RX6 (some .int) G) (x1 : Int32) (x2 : Int32) (x3 : Int32) (x4 : Int32) (x5 : Int32) (x7 : Int32) (r : Int32) (μ' : Mem) : ∀ (fuel : Nat), ∀ (x8 : Int32) (μ : Mem) (H : Heap) (locs : List Loc) (ls : Array Slot), Hh G μ H → va_S (gA G) s.heap H locs → lv_has ls 10 [(0, .ref (ga G 31)), (1, .int x1), (2, .int x2), (3, .int x3), (4, .int x4), (5, .int x5), (7, .int x7), (8, .int x8)] → fX6_copy_L166 x1 x2 x3 x4 x5 x7 fuel x8 μ = some (r, μ') → W p l e rmX6_copy s m args below meth c H locs 0 0 (MQ below (Qg G (some (.int r)) μ') args s 0 0 (gA G)) (F0 m 166 ls []) := by
  intro fuel
  induction fuel with
  | zero =>
    intro x8 μ H locs ls hP hS hl hf
    exact absurd hf (by intro h; cases h)
  | succ fuel ih166 =>
    intro x8 μ H locs ls hP hS hl hf
    have hf : sX6_copy_L166 (fX6_copy_L166 x1 x2 x3 x4 x5 x7 fuel) x1 x2 x3 x4 x5 x7 x8 μ = some (r, μ') := hf
    unfold sX6_copy_L166 at hf
    refine lv_iload F.1.1 F.1.2.1 dX6_copy_166 (lv_at hl 7 rfl) ?_
    refine lv_iload F.1.1 F.1.2.1 dX6_copy_168 (lv_at hl 5 rfl) ?_
    refine jc_ge (tgt := 227) F dX6_copy_170 (by decide) hf (fun hf => ?_) (fun hf => ?_)
    · refine lv_iload F.1.1 F.1.2.1 dX6_copy_227 (lv_at hl 5 rfl) ?_
      exact retI F hP hS dX6_copy_229 hf
    · refine lv_iload F.1.1 F.1.2.1 dX6_copy_173 (lv_at hl 6 rfl) ?_
      refine jz_eq (tgt := 188) F dX6_copy_175 (by decide) hf (fun hf => ?_) (fun hf => ?_)
      · refine lv_iload F.1.1 F.1.2.1 dX6_copy_188 (lv_at hl 7 rfl) ?_
        refine lv_istore (lv' := [(9, .int x8), (0, .ref (ga G 31)), (1, .int x1), (2, .int x2), (3, .int x3), (4, .int x4), (5, .int x5), (7, .int x7), (8, .int x8)]) F.1.1 F.1.2.1 dX6_copy_190 hl (by decide) rfl (fun ls hl => ?_)
        refine lv_aload_n F.1.1 F.1.2.1 dX6_copy_192 rfl (lv_at hl 1 rfl) ?_
        refine gt_6_4 F hP 31 rfl inX6_copy_6 kX6_copy_16 dX6_copy_193 ?_
        refine lv_bipush (v := (60 : Int32)) F.1.1 F.1.2.1 dX6_copy_196 (by decide) ?_
        refine lv_iload_n F.1.1 F.1.2.1 dX6_copy_198 rfl (lv_at hl 4 rfl) ?_
        refine lv_imul F.1.1 F.1.2.1 dX6_copy_199 ?_
        refine lv_iload F.1.1 F.1.2.1 dX6_copy_200 (lv_at hl 5 rfl) ?_
        refine lv_iadd F.1.1 F.1.2.1 dX6_copy_202 ?_
        refine lv_iload F.1.1 F.1.2.1 dX6_copy_203 (lv_at hl 0 rfl) ?_
        refine lv_iadd F.1.1 F.1.2.1 dX6_copy_205 ?_
        refine lv_aload_n F.1.1 F.1.2.1 dX6_copy_206 rfl (lv_at hl 1 rfl) ?_
        refine gt_6_4 F hP 31 rfl inX6_copy_6 kX6_copy_16 dX6_copy_207 ?_
        refine lv_bipush (v := (60 : Int32)) F.1.1 F.1.2.1 dX6_copy_210 (by decide) ?_
        refine lv_iload_n F.1.1 F.1.2.1 dX6_copy_212 rfl (lv_at hl 2 rfl) ?_
        refine lv_imul F.1.1 F.1.2.1 dX6_copy_213 ?_
        refine lv_iload_n F.1.1 F.1.2.1 dX6_copy_214 rfl (lv_at hl 3 rfl) ?_
        refine lv_iadd F.1.1 F.1.2.1 dX6_copy_215 ?_
        refine lv_iload F.1.1 F.1.2.1 dX6_copy_216 (lv_at hl 0 rfl) ?_
        refine lv_iadd F.1.1 F.1.2.1 dX6_copy_218 ?_
        refine r_ial F hP 34 rfl rfl dX6_copy_219 hf (fun hf => ?_)
        refine r_ias F hP hS 34 rfl rfl dX6_copy_220 hf (fun μ_38 H locs hP hS hf => ?_)
        refine top_n hf (fun y_39 ey_39 hf => ?_)
        refine lv_iinc (v := y_39) (lv' := [(8, .int y_39), (9, .int x8), (0, .ref (ga G 31)), (1, .int x1), (2, .int x2), (3, .int x3), (4, .int x4), (5, .int x5), (7, .int x7)]) F.1.1 F.1.2.1 dX6_copy_221 hl (k := 8) rfl ey_39 (by decide) rfl (fun ls hl => ?_)
        refine lv_goto (tgt := 166) F.1.1 F.1.2.1 dX6_copy_224 (by decide) ?_
        exact ih166 y_39 μ_38 H locs ls hP hS (lv_sub hl [2, 3, 4, 5, 6, 7, 8, 0] rfl) hf
      · refine lv_iload F.1.1 F.1.2.1 dX6_copy_178 (lv_at hl 5 rfl) ?_
        refine lv_iconst (v := (1 : Int32)) F.1.1 F.1.2.1 dX6_copy_180 (by decide) ?_
        refine lv_isub F.1.1 F.1.2.1 dX6_copy_181 ?_
        refine lv_iload F.1.1 F.1.2.1 dX6_copy_182 (lv_at hl 7 rfl) ?_
        refine lv_isub F.1.1 F.1.2.1 dX6_copy_184 ?_
        refine lv_goto (tgt := 190) F.1.1 F.1.2.1 dX6_copy_185 (by decide) ?_
        refine top_i hf (fun y_40 hf => ?_)
        refine lv_istore (lv' := [(9, .int y_40), (0, .ref (ga G 31)), (1, .int x1), (2, .int x2), (3, .int x3), (4, .int x4), (5, .int x5), (7, .int x7), (8, .int x8)]) F.1.1 F.1.2.1 dX6_copy_190 hl (by decide) rfl (fun ls hl => ?_)
        refine lv_aload_n F.1.1 F.1.2.1 dX6_copy_192 rfl (lv_at hl 1 rfl) ?_
        refine gt_6_4 F hP 31 rfl inX6_copy_6 kX6_copy_16 dX6_copy_193 ?_
        refine lv_bipush (v := (60 : Int32)) F.1.1 F.1.2.1 dX6_copy_196 (by decide) ?_
        refine lv_iload_n F.1.1 F.1.2.1 dX6_copy_198 rfl (lv_at hl 4 rfl) ?_
        refine lv_imul F.1.1 F.1.2.1 dX6_copy_199 ?_
        refine lv_iload F.1.1 F.1.2.1 dX6_copy_200 (lv_at hl 5 rfl) ?_
        refine lv_iadd F.1.1 F.1.2.1 dX6_copy_202 ?_
        refine lv_iload F.1.1 F.1.2.1 dX6_copy_203 (lv_at hl 0 rfl) ?_
        refine lv_iadd F.1.1 F.1.2.1 dX6_copy_205 ?_
        refine lv_aload_n F.1.1 F.1.2.1 dX6_copy_206 rfl (lv_at hl 1 rfl) ?_
        refine gt_6_4 F hP 31 rfl inX6_copy_6 kX6_copy_16 dX6_copy_207 ?_
        refine lv_bipush (v := (60 : Int32)) F.1.1 F.1.2.1 dX6_copy_210 (by decide) ?_
        refine lv_iload_n F.1.1 F.1.2.1 dX6_copy_212 rfl (lv_at hl 2 rfl) ?_
        refine lv_imul F.1.1 F.1.2.1 dX6_copy_213 ?_
        refine lv_iload_n F.1.1 F.1.2.1 dX6_copy_214 rfl (lv_at hl 3 rfl) ?_
        refine lv_iadd F.1.1 F.1.2.1 dX6_copy_215 ?_
        refine lv_iload F.1.1 F.1.2.1 dX6_copy_216 (lv_at hl 0 rfl) ?_
        refine lv_iadd F.1.1 F.1.2.1 dX6_copy_218 ?_
        refine r_ial F hP 34 rfl rfl dX6_copy_219 hf (fun hf => ?_)
        refine r_ias F hP hS 34 rfl rfl dX6_copy_220 hf (fun μ_41 H locs hP hS hf => ?_)
        refine top_n hf (fun y_42 ey_42 hf => ?_)
        refine lv_iinc (v := y_42) (lv' := [(8, .int y_42), (9, .int y_40), (0, .ref (ga G 31)), (1, .int x1), (2, .int x2), (3, .int x3), (4, .int x4), (5, .int x5), (7, .int x7)]) F.1.1 F.1.2.1 dX6_copy_221 hl (k := 8) rfl ey_42 (by decide) rfl (fun ls hl => ?_)
        refine lv_goto (tgt := 166) F.1.1 F.1.2.1 dX6_copy_224 (by decide) ?_
        exact ih166 y_42 μ_41 H locs ls hP hS (lv_sub hl [2, 3, 4, 5, 6, 7, 8, 0] rfl) hf
set_option maxHeartbeats 4000000 in
set_option maxRecDepth 100000 in
theorem mX6_copy (l : Launch) (G : GT) (hG : GD G) (x1 : Int32) (x2 : Int32) (x3 : Int32) (x4 : Int32) (x5 : Int32) (μ : Mem) (r : Int32) (μ' : Mem) (hf : fX6_copy x1 x2 x3 x4 x5 μ = some (r, μ')) : Ct l yX6_copy wsX6_copy rmX6_copy G [.ref (ga G 31), .int x1, .int x2, .int x3, .int x4, .int x5] μ (some (.int r)) μ' := by
  refine Ct.of (cc := cX6_copy) (maxL := 10) (ret := (some .int)) (own := RX6) hG (by decide) rfl rfl (Nat.le_of_ble_eq_true rfl) ?_
  intro p e s m args below meth c ls H locs F hl hP hS
  have hl : lv_has ls 10 [(0, .ref (ga G 31)), (1, .int x1), (2, .int x2), (3, .int x3), (4, .int x4), (5, .int x5)] := hl
  unfold fX6_copy at hf
  refine lv_aload_n F.1.1 F.1.2.1 dX6_copy_0 rfl (lv_at hl 0 rfl) ?_
  refine lv_iconst (v := (0 : Int32)) F.1.1 F.1.2.1 dX6_copy_1 (by decide) ?_
  refine pt_6_0 F hP hS 31 rfl inX6_copy_6 kX6_copy_46 dX6_copy_2 hf (fun μ_1 H locs hP hS hf => ?_)
  refine lv_iload_n F.1.1 F.1.2.1 dX6_copy_5 rfl (lv_at hl 1 rfl) ?_
  obtain ⟨r_4, μ_2, hc_3, hf⟩ := bnd_some hf
  refine rS1 (R := rmX6_copy) (As := [.int x1]) (rest := []) F hP hS hl (mX6_isSheet l G F.2.2.2.2 x1 _ _ _ hc_3) gX6_copy_X6_isSheet hdX6_isSheet rfl rfl rfl ⟨Nat.le_of_ble_eq_true rfl, Nat.le_of_ble_eq_true rfl⟩ rfl rfl (Nat.le_of_ble_eq_true rfl) ⟨Nat.le_of_ble_eq_true rfl, Nat.le_of_ble_eq_true rfl⟩ dX6_copy_6 (fun H locs hP hS => ?_)
  refine jz_eq (tgt := 19) F dX6_copy_9 (by decide) hf (fun hf => ?_) (fun hf => ?_)
  · refine lv_iconst (v := (-1 : Int32)) F.1.1 F.1.2.1 dX6_copy_19 (by decide) ?_
    exact retI F hP hS dX6_copy_20 hf
  · refine lv_iload_n F.1.1 F.1.2.1 dX6_copy_12 rfl (lv_at hl 3 rfl) ?_
    obtain ⟨r_7, μ_5, hc_6, hf⟩ := bnd_some hf
    refine rS1 (R := rmX6_copy) (As := [.int x3]) (rest := []) F hP hS hl (mX6_isSheet l G F.2.2.2.2 x3 _ _ _ hc_6) gX6_copy_X6_isSheet hdX6_isSheet rfl rfl rfl ⟨Nat.le_of_ble_eq_true rfl, Nat.le_of_ble_eq_true rfl⟩ rfl rfl (Nat.le_of_ble_eq_true rfl) ⟨Nat.le_of_ble_eq_true rfl, Nat.le_of_ble_eq_true rfl⟩ dX6_copy_13 (fun H locs hP hS => ?_)
    refine jz_ne (tgt := 21) F dX6_copy_16 (by decide) hf (fun hf => ?_) (fun hf => ?_)
    · refine lv_aload_n F.1.1 F.1.2.1 dX6_copy_21 rfl (lv_at hl 0 rfl) ?_
      refine gt_6_2 F hP 31 rfl inX6_copy_6 kX6_copy_9 dX6_copy_22 ?_
      refine lv_iload_n F.1.1 F.1.2.1 dX6_copy_25 rfl (lv_at hl 1 rfl) ?_
      refine r_ial F hP 32 rfl rfl dX6_copy_26 hf (fun hf => ?_)
      refine lv_bipush (v := (-9 : Int32)) F.1.1 F.1.2.1 dX6_copy_27 (by decide) ?_
      refine jc_eq (tgt := 43) F dX6_copy_29 (by decide) hf (fun hf => ?_) (fun hf => ?_)
      · refine lv_aload_n F.1.1 F.1.2.1 dX6_copy_43 rfl (lv_at hl 0 rfl) ?_
        refine lv_iconst (v := (1 : Int32)) F.1.1 F.1.2.1 dX6_copy_44 (by decide) ?_
        obtain ⟨r_10, μ_8, hc_9, hf⟩ := bnd_some hf
        refine rV1 (R := rmX6_copy) (As := [.int (1 : Int32)]) (rest := []) F hP hS hl (mX6_fails l G F.2.2.2.2 (1 : Int32) _ _ _ hc_9) gX6_copy_X6_fails rfl hdX6_fails rfl rfl rfl ⟨Nat.le_of_ble_eq_true rfl, Nat.le_of_ble_eq_true rfl⟩ (by decide) rfl rfl rfl (Nat.le_of_ble_eq_true rfl) ⟨Nat.le_of_ble_eq_true rfl, Nat.le_of_ble_eq_true rfl⟩ dX6_copy_45 (fun H locs hP hS => ?_)
        exact retI F hP hS dX6_copy_48 hf
      · refine lv_aload_n F.1.1 F.1.2.1 dX6_copy_32 rfl (lv_at hl 0 rfl) ?_
        refine gt_6_2 F hP 31 rfl inX6_copy_6 kX6_copy_9 dX6_copy_33 ?_
        refine lv_iload_n F.1.1 F.1.2.1 dX6_copy_36 rfl (lv_at hl 3 rfl) ?_
        refine r_ial F hP 32 rfl rfl dX6_copy_37 hf (fun hf => ?_)
        refine lv_bipush (v := (-9 : Int32)) F.1.1 F.1.2.1 dX6_copy_38 (by decide) ?_
        refine jc_ne (tgt := 49) F dX6_copy_40 (by decide) hf (fun hf => ?_) (fun hf => ?_)
        · refine lv_aload_n F.1.1 F.1.2.1 dX6_copy_49 rfl (lv_at hl 0 rfl) ?_
          refine gt_6_2 F hP 31 rfl inX6_copy_6 kX6_copy_9 dX6_copy_50 ?_
          refine lv_iload_n F.1.1 F.1.2.1 dX6_copy_53 rfl (lv_at hl 1 rfl) ?_
          refine r_ial F hP 32 rfl rfl dX6_copy_54 hf (fun hf => ?_)
          refine lv_aload_n F.1.1 F.1.2.1 dX6_copy_55 rfl (lv_at hl 0 rfl) ?_
          refine gt_6_2 F hP 31 rfl inX6_copy_6 kX6_copy_9 dX6_copy_56 ?_
          refine lv_iload_n F.1.1 F.1.2.1 dX6_copy_59 rfl (lv_at hl 3 rfl) ?_
          refine r_ial F hP 32 rfl rfl dX6_copy_60 hf (fun hf => ?_)
          refine jc_eq (tgt := 70) F dX6_copy_61 (by decide) hf (fun hf => ?_) (fun hf => ?_)
          · refine lv_iload_n F.1.1 F.1.2.1 dX6_copy_70 rfl (lv_at hl 2 rfl) ?_
            refine jz_lt (tgt := 109) F dX6_copy_71 (by decide) hf (fun hf => ?_) (fun hf => ?_)
            · refine lv_iconst (v := (0 : Int32)) F.1.1 F.1.2.1 dX6_copy_109 (by decide) ?_
              refine lv_istore (lv' := [(6, .int (0 : Int32)), (0, .ref (ga G 31)), (1, .int x1), (2, .int x2), (3, .int x3), (4, .int x4), (5, .int x5)]) F.1.1 F.1.2.1 dX6_copy_110 hl (by decide) rfl (fun ls hl => ?_)
              refine lv_iload F.1.1 F.1.2.1 dX6_copy_112 (lv_at hl 0 rfl) ?_
              refine lv_if_eq (tgt := 144) F.1.1 F.1.2.1 dX6_copy_114 (by decide) (fun _ => ?_) (fun h => absurd (by decide) h)
              refine lv_aload_n F.1.1 F.1.2.1 dX6_copy_144 rfl (lv_at hl 1 rfl) ?_
              refine lv_iconst (v := (3 : Int32)) F.1.1 F.1.2.1 dX6_copy_145 (by decide) ?_
              obtain ⟨r_13, μ_11, hc_12, hf⟩ := bnd_some hf
              refine rV1 (R := rmX6_copy) (As := [.int (3 : Int32)]) (rest := []) F hP hS hl (mX6_fails l G F.2.2.2.2 (3 : Int32) _ _ _ hc_12) gX6_copy_X6_fails rfl hdX6_fails rfl rfl rfl ⟨Nat.le_of_ble_eq_true rfl, Nat.le_of_ble_eq_true rfl⟩ (by decide) rfl rfl rfl (Nat.le_of_ble_eq_true rfl) ⟨Nat.le_of_ble_eq_true rfl, Nat.le_of_ble_eq_true rfl⟩ dX6_copy_146 (fun H locs hP hS => ?_)
              exact retI F hP hS dX6_copy_149 hf
            · refine lv_iload F.1.1 F.1.2.1 dX6_copy_74 (lv_at hl 4 rfl) ?_
              refine jz_lt (tgt := 109) F dX6_copy_76 (by decide) hf (fun hf => ?_) (fun hf => ?_)
              · refine lv_iconst (v := (0 : Int32)) F.1.1 F.1.2.1 dX6_copy_109 (by decide) ?_
                refine lv_istore (lv' := [(6, .int (0 : Int32)), (0, .ref (ga G 31)), (1, .int x1), (2, .int x2), (3, .int x3), (4, .int x4), (5, .int x5)]) F.1.1 F.1.2.1 dX6_copy_110 hl (by decide) rfl (fun ls hl => ?_)
                refine lv_iload F.1.1 F.1.2.1 dX6_copy_112 (lv_at hl 0 rfl) ?_
                refine lv_if_eq (tgt := 144) F.1.1 F.1.2.1 dX6_copy_114 (by decide) (fun _ => ?_) (fun h => absurd (by decide) h)
                refine lv_aload_n F.1.1 F.1.2.1 dX6_copy_144 rfl (lv_at hl 1 rfl) ?_
                refine lv_iconst (v := (3 : Int32)) F.1.1 F.1.2.1 dX6_copy_145 (by decide) ?_
                obtain ⟨r_16, μ_14, hc_15, hf⟩ := bnd_some hf
                refine rV1 (R := rmX6_copy) (As := [.int (3 : Int32)]) (rest := []) F hP hS hl (mX6_fails l G F.2.2.2.2 (3 : Int32) _ _ _ hc_15) gX6_copy_X6_fails rfl hdX6_fails rfl rfl rfl ⟨Nat.le_of_ble_eq_true rfl, Nat.le_of_ble_eq_true rfl⟩ (by decide) rfl rfl rfl (Nat.le_of_ble_eq_true rfl) ⟨Nat.le_of_ble_eq_true rfl, Nat.le_of_ble_eq_true rfl⟩ dX6_copy_146 (fun H locs hP hS => ?_)
                exact retI F hP hS dX6_copy_149 hf
              · refine lv_iload F.1.1 F.1.2.1 dX6_copy_79 (lv_at hl 5 rfl) ?_
                refine jz_lt (tgt := 109) F dX6_copy_81 (by decide) hf (fun hf => ?_) (fun hf => ?_)
                · refine lv_iconst (v := (0 : Int32)) F.1.1 F.1.2.1 dX6_copy_109 (by decide) ?_
                  refine lv_istore (lv' := [(6, .int (0 : Int32)), (0, .ref (ga G 31)), (1, .int x1), (2, .int x2), (3, .int x3), (4, .int x4), (5, .int x5)]) F.1.1 F.1.2.1 dX6_copy_110 hl (by decide) rfl (fun ls hl => ?_)
                  refine lv_iload F.1.1 F.1.2.1 dX6_copy_112 (lv_at hl 0 rfl) ?_
                  refine lv_if_eq (tgt := 144) F.1.1 F.1.2.1 dX6_copy_114 (by decide) (fun _ => ?_) (fun h => absurd (by decide) h)
                  refine lv_aload_n F.1.1 F.1.2.1 dX6_copy_144 rfl (lv_at hl 1 rfl) ?_
                  refine lv_iconst (v := (3 : Int32)) F.1.1 F.1.2.1 dX6_copy_145 (by decide) ?_
                  obtain ⟨r_19, μ_17, hc_18, hf⟩ := bnd_some hf
                  refine rV1 (R := rmX6_copy) (As := [.int (3 : Int32)]) (rest := []) F hP hS hl (mX6_fails l G F.2.2.2.2 (3 : Int32) _ _ _ hc_18) gX6_copy_X6_fails rfl hdX6_fails rfl rfl rfl ⟨Nat.le_of_ble_eq_true rfl, Nat.le_of_ble_eq_true rfl⟩ (by decide) rfl rfl rfl (Nat.le_of_ble_eq_true rfl) ⟨Nat.le_of_ble_eq_true rfl, Nat.le_of_ble_eq_true rfl⟩ dX6_copy_146 (fun H locs hP hS => ?_)
                  exact retI F hP hS dX6_copy_149 hf
                · refine lv_iload_n F.1.1 F.1.2.1 dX6_copy_84 rfl (lv_at hl 2 rfl) ?_
                  refine lv_aload_n F.1.1 F.1.2.1 dX6_copy_85 rfl (lv_at hl 0 rfl) ?_
                  refine gt_6_3 F hP 31 rfl inX6_copy_6 kX6_copy_13 dX6_copy_86 ?_
                  refine lv_iload_n F.1.1 F.1.2.1 dX6_copy_89 rfl (lv_at hl 1 rfl) ?_
                  refine r_ial F hP 33 rfl rfl dX6_copy_90 hf (fun hf => ?_)
                  refine jc_gt (tgt := 109) F dX6_copy_91 (by decide) hf (fun hf => ?_) (fun hf => ?_)
                  · refine lv_iconst (v := (0 : Int32)) F.1.1 F.1.2.1 dX6_copy_109 (by decide) ?_
                    refine lv_istore (lv' := [(6, .int (0 : Int32)), (0, .ref (ga G 31)), (1, .int x1), (2, .int x2), (3, .int x3), (4, .int x4), (5, .int x5)]) F.1.1 F.1.2.1 dX6_copy_110 hl (by decide) rfl (fun ls hl => ?_)
                    refine lv_iload F.1.1 F.1.2.1 dX6_copy_112 (lv_at hl 0 rfl) ?_
                    refine lv_if_eq (tgt := 144) F.1.1 F.1.2.1 dX6_copy_114 (by decide) (fun _ => ?_) (fun h => absurd (by decide) h)
                    refine lv_aload_n F.1.1 F.1.2.1 dX6_copy_144 rfl (lv_at hl 1 rfl) ?_
                    refine lv_iconst (v := (3 : Int32)) F.1.1 F.1.2.1 dX6_copy_145 (by decide) ?_
                    obtain ⟨r_22, μ_20, hc_21, hf⟩ := bnd_some hf
                    refine rV1 (R := rmX6_copy) (As := [.int (3 : Int32)]) (rest := []) F hP hS hl (mX6_fails l G F.2.2.2.2 (3 : Int32) _ _ _ hc_21) gX6_copy_X6_fails rfl hdX6_fails rfl rfl rfl ⟨Nat.le_of_ble_eq_true rfl, Nat.le_of_ble_eq_true rfl⟩ (by decide) rfl rfl rfl (Nat.le_of_ble_eq_true rfl) ⟨Nat.le_of_ble_eq_true rfl, Nat.le_of_ble_eq_true rfl⟩ dX6_copy_146 (fun H locs hP hS => ?_)
                    exact retI F hP hS dX6_copy_149 hf
                  · refine lv_iload F.1.1 F.1.2.1 dX6_copy_94 (lv_at hl 4 rfl) ?_
                    refine lv_aload_n F.1.1 F.1.2.1 dX6_copy_96 rfl (lv_at hl 0 rfl) ?_
                    refine gt_6_3 F hP 31 rfl inX6_copy_6 kX6_copy_13 dX6_copy_97 ?_
                    refine lv_iload_n F.1.1 F.1.2.1 dX6_copy_100 rfl (lv_at hl 3 rfl) ?_
                    refine r_ial F hP 33 rfl rfl dX6_copy_101 hf (fun hf => ?_)
                    refine jc_gt (tgt := 109) F dX6_copy_102 (by decide) hf (fun hf => ?_) (fun hf => ?_)
                    · refine lv_iconst (v := (0 : Int32)) F.1.1 F.1.2.1 dX6_copy_109 (by decide) ?_
                      refine lv_istore (lv' := [(6, .int (0 : Int32)), (0, .ref (ga G 31)), (1, .int x1), (2, .int x2), (3, .int x3), (4, .int x4), (5, .int x5)]) F.1.1 F.1.2.1 dX6_copy_110 hl (by decide) rfl (fun ls hl => ?_)
                      refine lv_iload F.1.1 F.1.2.1 dX6_copy_112 (lv_at hl 0 rfl) ?_
                      refine lv_if_eq (tgt := 144) F.1.1 F.1.2.1 dX6_copy_114 (by decide) (fun _ => ?_) (fun h => absurd (by decide) h)
                      refine lv_aload_n F.1.1 F.1.2.1 dX6_copy_144 rfl (lv_at hl 1 rfl) ?_
                      refine lv_iconst (v := (3 : Int32)) F.1.1 F.1.2.1 dX6_copy_145 (by decide) ?_
                      obtain ⟨r_25, μ_23, hc_24, hf⟩ := bnd_some hf
                      refine rV1 (R := rmX6_copy) (As := [.int (3 : Int32)]) (rest := []) F hP hS hl (mX6_fails l G F.2.2.2.2 (3 : Int32) _ _ _ hc_24) gX6_copy_X6_fails rfl hdX6_fails rfl rfl rfl ⟨Nat.le_of_ble_eq_true rfl, Nat.le_of_ble_eq_true rfl⟩ (by decide) rfl rfl rfl (Nat.le_of_ble_eq_true rfl) ⟨Nat.le_of_ble_eq_true rfl, Nat.le_of_ble_eq_true rfl⟩ dX6_copy_146 (fun H locs hP hS => ?_)
                      exact retI F hP hS dX6_copy_149 hf
                    · refine lv_iconst (v := (1 : Int32)) F.1.1 F.1.2.1 dX6_copy_105 (by decide) ?_
                      refine lv_goto (tgt := 110) F.1.1 F.1.2.1 dX6_copy_106 (by decide) ?_
                      refine lv_istore (lv' := [(6, .int (1 : Int32)), (0, .ref (ga G 31)), (1, .int x1), (2, .int x2), (3, .int x3), (4, .int x4), (5, .int x5)]) F.1.1 F.1.2.1 dX6_copy_110 hl (by decide) rfl (fun ls hl => ?_)
                      refine lv_iload F.1.1 F.1.2.1 dX6_copy_112 (lv_at hl 0 rfl) ?_
                      refine lv_if_eq (tgt := 144) F.1.1 F.1.2.1 dX6_copy_114 (by decide) (fun h => absurd h (by decide)) (fun _ => ?_)
                      refine lv_iload F.1.1 F.1.2.1 dX6_copy_117 (lv_at hl 6 rfl) ?_
                      refine lv_aload_n F.1.1 F.1.2.1 dX6_copy_119 rfl (lv_at hl 1 rfl) ?_
                      refine gt_6_3 F hP 31 rfl inX6_copy_6 kX6_copy_13 dX6_copy_120 ?_
                      refine lv_iload_n F.1.1 F.1.2.1 dX6_copy_123 rfl (lv_at hl 2 rfl) ?_
                      refine r_ial F hP 33 rfl rfl dX6_copy_124 hf (fun hf => ?_)
                      refine lv_iload_n F.1.1 F.1.2.1 dX6_copy_125 rfl (lv_at hl 3 rfl) ?_
                      refine lv_isub F.1.1 F.1.2.1 dX6_copy_126 ?_
                      refine jc_gt (tgt := 144) F dX6_copy_127 (by decide) hf (fun hf => ?_) (fun hf => ?_)
                      · refine lv_aload_n F.1.1 F.1.2.1 dX6_copy_144 rfl (lv_at hl 1 rfl) ?_
                        refine lv_iconst (v := (3 : Int32)) F.1.1 F.1.2.1 dX6_copy_145 (by decide) ?_
                        obtain ⟨r_28, μ_26, hc_27, hf⟩ := bnd_some hf
                        refine rV1 (R := rmX6_copy) (As := [.int (3 : Int32)]) (rest := []) F hP hS hl (mX6_fails l G F.2.2.2.2 (3 : Int32) _ _ _ hc_27) gX6_copy_X6_fails rfl hdX6_fails rfl rfl rfl ⟨Nat.le_of_ble_eq_true rfl, Nat.le_of_ble_eq_true rfl⟩ (by decide) rfl rfl rfl (Nat.le_of_ble_eq_true rfl) ⟨Nat.le_of_ble_eq_true rfl, Nat.le_of_ble_eq_true rfl⟩ dX6_copy_146 (fun H locs hP hS => ?_)
                        exact retI F hP hS dX6_copy_149 hf
                      · refine lv_iload F.1.1 F.1.2.1 dX6_copy_130 (lv_at hl 6 rfl) ?_
                        refine lv_aload_n F.1.1 F.1.2.1 dX6_copy_132 rfl (lv_at hl 1 rfl) ?_
                        refine gt_6_3 F hP 31 rfl inX6_copy_6 kX6_copy_13 dX6_copy_133 ?_
                        refine lv_iload_n F.1.1 F.1.2.1 dX6_copy_136 rfl (lv_at hl 4 rfl) ?_
                        refine r_ial F hP 33 rfl rfl dX6_copy_137 hf (fun hf => ?_)
                        refine lv_iload F.1.1 F.1.2.1 dX6_copy_138 (lv_at hl 5 rfl) ?_
                        refine lv_isub F.1.1 F.1.2.1 dX6_copy_140 ?_
                        refine jc_le (tgt := 150) F dX6_copy_141 (by decide) hf (fun hf => ?_) (fun hf => ?_)
                        · refine lv_iload_n F.1.1 F.1.2.1 dX6_copy_150 rfl (lv_at hl 3 rfl) ?_
                          refine lv_iload F.1.1 F.1.2.1 dX6_copy_151 (lv_at hl 5 rfl) ?_
                          refine jc_ge (tgt := 160) F dX6_copy_153 (by decide) hf (fun hf => ?_) (fun hf => ?_)
                          · refine lv_iconst (v := (0 : Int32)) F.1.1 F.1.2.1 dX6_copy_160 (by decide) ?_
                            refine lv_istore (lv' := [(7, .int (0 : Int32)), (6, .int (1 : Int32)), (0, .ref (ga G 31)), (1, .int x1), (2, .int x2), (3, .int x3), (4, .int x4), (5, .int x5)]) F.1.1 F.1.2.1 dX6_copy_161 hl (by decide) rfl (fun ls hl => ?_)
                            refine lv_iconst (v := (0 : Int32)) F.1.1 F.1.2.1 dX6_copy_163 (by decide) ?_
                            refine lv_istore (lv' := [(8, .int (0 : Int32)), (7, .int (0 : Int32)), (6, .int (1 : Int32)), (0, .ref (ga G 31)), (1, .int x1), (2, .int x2), (3, .int x3), (4, .int x4), (5, .int x5)]) F.1.1 F.1.2.1 dX6_copy_164 hl (by decide) rfl (fun ls hl => ?_)
                            exact lX6_copy_L166 l G F x1 x2 x3 x4 x5 (0 : Int32) _ _ FU (0 : Int32) μ_5 H locs ls hP hS (lv_sub hl [3, 4, 5, 6, 7, 8, 1, 0] rfl) hf
                          · refine lv_iconst (v := (1 : Int32)) F.1.1 F.1.2.1 dX6_copy_156 (by decide) ?_
                            refine lv_goto (tgt := 161) F.1.1 F.1.2.1 dX6_copy_157 (by decide) ?_
                            refine lv_istore (lv' := [(7, .int (1 : Int32)), (6, .int (1 : Int32)), (0, .ref (ga G 31)), (1, .int x1), (2, .int x2), (3, .int x3), (4, .int x4), (5, .int x5)]) F.1.1 F.1.2.1 dX6_copy_161 hl (by decide) rfl (fun ls hl => ?_)
                            refine lv_iconst (v := (0 : Int32)) F.1.1 F.1.2.1 dX6_copy_163 (by decide) ?_
                            refine lv_istore (lv' := [(8, .int (0 : Int32)), (7, .int (1 : Int32)), (6, .int (1 : Int32)), (0, .ref (ga G 31)), (1, .int x1), (2, .int x2), (3, .int x3), (4, .int x4), (5, .int x5)]) F.1.1 F.1.2.1 dX6_copy_164 hl (by decide) rfl (fun ls hl => ?_)
                            exact lX6_copy_L166 l G F x1 x2 x3 x4 x5 (1 : Int32) _ _ FU (0 : Int32) μ_5 H locs ls hP hS (lv_sub hl [3, 4, 5, 6, 7, 8, 1, 0] rfl) hf
                        · refine lv_aload_n F.1.1 F.1.2.1 dX6_copy_144 rfl (lv_at hl 1 rfl) ?_
                          refine lv_iconst (v := (3 : Int32)) F.1.1 F.1.2.1 dX6_copy_145 (by decide) ?_
                          obtain ⟨r_31, μ_29, hc_30, hf⟩ := bnd_some hf
                          refine rV1 (R := rmX6_copy) (As := [.int (3 : Int32)]) (rest := []) F hP hS hl (mX6_fails l G F.2.2.2.2 (3 : Int32) _ _ _ hc_30) gX6_copy_X6_fails rfl hdX6_fails rfl rfl rfl ⟨Nat.le_of_ble_eq_true rfl, Nat.le_of_ble_eq_true rfl⟩ (by decide) rfl rfl rfl (Nat.le_of_ble_eq_true rfl) ⟨Nat.le_of_ble_eq_true rfl, Nat.le_of_ble_eq_true rfl⟩ dX6_copy_146 (fun H locs hP hS => ?_)
                          exact retI F hP hS dX6_copy_149 hf
          · refine lv_aload_n F.1.1 F.1.2.1 dX6_copy_64 rfl (lv_at hl 0 rfl) ?_
            refine lv_iconst (v := (2 : Int32)) F.1.1 F.1.2.1 dX6_copy_65 (by decide) ?_
            obtain ⟨r_34, μ_32, hc_33, hf⟩ := bnd_some hf
            refine rV1 (R := rmX6_copy) (As := [.int (2 : Int32)]) (rest := []) F hP hS hl (mX6_fails l G F.2.2.2.2 (2 : Int32) _ _ _ hc_33) gX6_copy_X6_fails rfl hdX6_fails rfl rfl rfl ⟨Nat.le_of_ble_eq_true rfl, Nat.le_of_ble_eq_true rfl⟩ (by decide) rfl rfl rfl (Nat.le_of_ble_eq_true rfl) ⟨Nat.le_of_ble_eq_true rfl, Nat.le_of_ble_eq_true rfl⟩ dX6_copy_66 (fun H locs hP hS => ?_)
            exact retI F hP hS dX6_copy_69 hf
        · refine lv_aload_n F.1.1 F.1.2.1 dX6_copy_43 rfl (lv_at hl 0 rfl) ?_
          refine lv_iconst (v := (1 : Int32)) F.1.1 F.1.2.1 dX6_copy_44 (by decide) ?_
          obtain ⟨r_37, μ_35, hc_36, hf⟩ := bnd_some hf
          refine rV1 (R := rmX6_copy) (As := [.int (1 : Int32)]) (rest := []) F hP hS hl (mX6_fails l G F.2.2.2.2 (1 : Int32) _ _ _ hc_36) gX6_copy_X6_fails rfl hdX6_fails rfl rfl rfl ⟨Nat.le_of_ble_eq_true rfl, Nat.le_of_ble_eq_true rfl⟩ (by decide) rfl rfl rfl (Nat.le_of_ble_eq_true rfl) ⟨Nat.le_of_ble_eq_true rfl, Nat.le_of_ble_eq_true rfl⟩ dX6_copy_45 (fun H locs hP hS => ?_)
          exact retI F hP hS dX6_copy_48 hf
    · refine lv_iconst (v := (-1 : Int32)) F.1.1 F.1.2.1 dX6_copy_19 (by decide) ?_
      exact retI F hP hS dX6_copy_20 hf
