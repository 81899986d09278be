abbrev rmX6_readWall : Room := { frames := 3, cells := 0, slots := 0, locals := 66 }
theorem hdX6_readWall : yX6_readWall.cls = RX6 ∧ yX6_readWall.cls ≠ "java/lang/invoke/MethodHandle" ∧ yX6_readWall.cls ≠ "java/lang/invoke/VarHandle" ∧ (parseMethodDescriptor yX6_readWall.desc).map (fun d => d.parameters.length) = some 1 := by decide +kernel
theorem kX6_readWall_59 : Cond.fieldLink RX6 59 "PaperLayersModel" "at" "I" ∈ wsX6_readWall := List.mem_cons_of_mem _ (List.mem_append_left _ (List.mem_of_getElem? (i := 3) rfl))
theorem kX6_readWall_83 : Cond.fieldLink RX6 83 "PaperLayersModel" "readWarm" "I" ∈ wsX6_readWall := List.mem_cons_of_mem _ (List.mem_append_left _ (List.mem_of_getElem? (i := 1) rfl))
theorem kX6_readWall_89 : Cond.fieldLink RX6 89 "PaperLayersModel" "readDamp" "I" ∈ wsX6_readWall := List.mem_cons_of_mem _ (List.mem_append_left _ (List.mem_of_getElem? (i := 2) rfl))
theorem kX6_readWall_95 : Cond.fieldLink RX6 95 "PaperLayersModel" "readLayers" "I" ∈ wsX6_readWall := List.mem_cons_of_mem _ (List.mem_append_left _ (List.mem_of_getElem? (i := 0) rfl))
theorem inX6_readWall_6 : ∀ w ∈ wsX60, w ∈ wsX6_readWall := fun _ h => List.mem_cons_of_mem _ (List.mem_append_right _ (h))
set_option maxHeartbeats 4000000 in
set_option maxRecDepth 100000 in
theorem lX6_readWall_L57 (l : Launch) (G : GT) {p : Program} {e : Env} {s : State} {m : MethodId} {args : Array Value} {below : List Frame} {meth : Method} {c : Code} (F : Fx p s m args meth c cX6_readWall 2 wsX6_readWall RX6 (some .boolean) G) (x1 : Int32) (r : Int32) (μ' : Mem) : ∀ (fuel : Nat), ∀ (μ : Mem) (H : Heap) (locs : List Loc) (ls : Array Slot), Hh G μ H → va_S (gA G) s.heap H locs → lv_has ls 2 [(0, .ref (ga G 31)), (1, .int x1)] → fX6_readWall_L57 x1 fuel  μ = some (r, μ') → W p l e rmX6_readWall s m args below meth c H locs 0 0 (MQ below (Qg G (some (.int r)) μ') args s 0 0 (gA G)) (F0 m 57 ls []) := by
  intro fuel
  induction fuel with
  | zero =>
    intro  μ H locs ls hP hS hl hf
    exact absurd hf (by intro h; cases h)
  | succ fuel ih57 =>
    intro  μ H locs ls hP hS hl hf
    have hf : sX6_readWall_L57 (fX6_readWall_L57 x1 fuel) x1  μ = some (r, μ') := hf
    unfold sX6_readWall_L57 at hf
    refine lv_aload_n F.1.1 F.1.2.1 dX6_readWall_57 rfl (lv_at hl 0 rfl) ?_
    refine gt_6_14 F hP 31 rfl inX6_readWall_6 kX6_readWall_95 dX6_readWall_58 ?_
    refine lv_iconst (v := (2 : Int32)) F.1.1 F.1.2.1 dX6_readWall_61 (by decide) ?_
    refine jc_lt (tgt := 82) F dX6_readWall_62 (by decide) hf (fun hf => ?_) (fun hf => ?_)
    · refine lv_aload_n F.1.1 F.1.2.1 dX6_readWall_82 rfl (lv_at hl 0 rfl) ?_
      refine lv_iload_n F.1.1 F.1.2.1 dX6_readWall_83 rfl (lv_at hl 1 rfl) ?_
      refine lv_bipush (v := (59 : Int32)) F.1.1 F.1.2.1 dX6_readWall_84 (by decide) ?_
      obtain ⟨r_15, μ_13, hc_14, hf⟩ := bnd_some hf
      refine rV1 (R := rmX6_readWall) (As := [.int x1, .int (59 : Int32)]) (rest := []) F hP hS hl (mX6_isSign l G F.2.2.2.2 x1 (59 : Int32) _ _ _ hc_14) gX6_readWall_X6_isSign rfl hdX6_isSign rfl rfl rfl ⟨Nat.le_of_ble_eq_true rfl, Nat.le_of_ble_eq_true rfl⟩ (by decide) rfl rfl rfl (Nat.le_of_ble_eq_true rfl) ⟨Nat.le_of_ble_eq_true rfl, Nat.le_of_ble_eq_true rfl⟩ dX6_readWall_86 (fun H locs hP hS => ?_)
      refine jz_eq (tgt := 100) F dX6_readWall_89 (by decide) hf (fun hf => ?_) (fun hf => ?_)
      · refine lv_iconst (v := (0 : Int32)) F.1.1 F.1.2.1 dX6_readWall_100 (by decide) ?_
        exact retC F hP hS dX6_readWall_101 (by decide) hf
      · refine lv_aload_n F.1.1 F.1.2.1 dX6_readWall_92 rfl (lv_at hl 0 rfl) ?_
        refine lv_iload_n F.1.1 F.1.2.1 dX6_readWall_93 rfl (lv_at hl 1 rfl) ?_
        obtain ⟨r_18, μ_16, hc_17, hf⟩ := bnd_some hf
        refine rV1 (R := rmX6_readWall) (As := [.int x1]) (rest := []) F hP hS hl (mX6_readLayer l G F.2.2.2.2 x1 _ _ _ hc_17) gX6_readWall_X6_readLayer rfl hdX6_readLayer rfl rfl rfl ⟨Nat.le_of_ble_eq_true rfl, Nat.le_of_ble_eq_true rfl⟩ (by decide) rfl rfl rfl (Nat.le_of_ble_eq_true rfl) ⟨Nat.le_of_ble_eq_true rfl, Nat.le_of_ble_eq_true rfl⟩ dX6_readWall_94 (fun H locs hP hS => ?_)
        refine jz_ne (tgt := 57) F dX6_readWall_97 (by decide) hf (fun hf => ?_) (fun hf => ?_)
        · exact ih57 μ_16 H locs ls hP hS (lv_sub hl [0, 1] rfl) hf
        · refine lv_iconst (v := (0 : Int32)) F.1.1 F.1.2.1 dX6_readWall_100 (by decide) ?_
          exact retC F hP hS dX6_readWall_101 (by decide) hf
    · refine lv_aload_n F.1.1 F.1.2.1 dX6_readWall_65 rfl (lv_at hl 0 rfl) ?_
      refine gt_6_14 F hP 31 rfl inX6_readWall_6 kX6_readWall_95 dX6_readWall_66 ?_
      refine lv_bipush (v := (6 : Int32)) F.1.1 F.1.2.1 dX6_readWall_69 (by decide) ?_
      refine jc_ge (tgt := 102) F dX6_readWall_71 (by decide) hf (fun hf => ?_) (fun hf => ?_)
      · refine lv_aload_n F.1.1 F.1.2.1 dX6_readWall_102 rfl (lv_at hl 0 rfl) ?_
        refine gt_6_11 F hP 31 rfl inX6_readWall_6 kX6_readWall_59 dX6_readWall_103 ?_
        refine lv_iload_n F.1.1 F.1.2.1 dX6_readWall_106 rfl (lv_at hl 1 rfl) ?_
        refine jc_ne (tgt := 114) F dX6_readWall_107 (by decide) hf (fun hf => ?_) (fun hf => ?_)
        · refine lv_iconst (v := (0 : Int32)) F.1.1 F.1.2.1 dX6_readWall_114 (by decide) ?_
          exact retC F hP hS dX6_readWall_115 (by decide) hf
        · refine lv_iconst (v := (1 : Int32)) F.1.1 F.1.2.1 dX6_readWall_110 (by decide) ?_
          refine lv_goto (tgt := 115) F.1.1 F.1.2.1 dX6_readWall_111 (by decide) ?_
          exact retC F hP hS dX6_readWall_115 (by decide) hf
      · refine lv_aload_n F.1.1 F.1.2.1 dX6_readWall_74 rfl (lv_at hl 0 rfl) ?_
        refine gt_6_11 F hP 31 rfl inX6_readWall_6 kX6_readWall_59 dX6_readWall_75 ?_
        refine lv_iload_n F.1.1 F.1.2.1 dX6_readWall_78 rfl (lv_at hl 1 rfl) ?_
        refine jc_ge (tgt := 102) F dX6_readWall_79 (by decide) hf (fun hf => ?_) (fun hf => ?_)
        · refine lv_aload_n F.1.1 F.1.2.1 dX6_readWall_102 rfl (lv_at hl 0 rfl) ?_
          refine gt_6_11 F hP 31 rfl inX6_readWall_6 kX6_readWall_59 dX6_readWall_103 ?_
          refine lv_iload_n F.1.1 F.1.2.1 dX6_readWall_106 rfl (lv_at hl 1 rfl) ?_
          refine jc_ne (tgt := 114) F dX6_readWall_107 (by decide) hf (fun hf => ?_) (fun hf => ?_)
          · refine lv_iconst (v := (0 : Int32)) F.1.1 F.1.2.1 dX6_readWall_114 (by decide) ?_
            exact retC F hP hS dX6_readWall_115 (by decide) hf
          · refine lv_iconst (v := (1 : Int32)) F.1.1 F.1.2.1 dX6_readWall_110 (by decide) ?_
            refine lv_goto (tgt := 115) F.1.1 F.1.2.1 dX6_readWall_111 (by decide) ?_
            exact retC F hP hS dX6_readWall_115 (by decide) hf
        · refine lv_aload_n F.1.1 F.1.2.1 dX6_readWall_82 rfl (lv_at hl 0 rfl) ?_
          refine lv_iload_n F.1.1 F.1.2.1 dX6_readWall_83 rfl (lv_at hl 1 rfl) ?_
          refine lv_bipush (v := (59 : Int32)) F.1.1 F.1.2.1 dX6_readWall_84 (by decide) ?_
          obtain ⟨r_21, μ_19, hc_20, hf⟩ := bnd_some hf
          refine rV1 (R := rmX6_readWall) (As := [.int x1, .int (59 : Int32)]) (rest := []) F hP hS hl (mX6_isSign l G F.2.2.2.2 x1 (59 : Int32) _ _ _ hc_20) gX6_readWall_X6_isSign rfl hdX6_isSign rfl rfl rfl ⟨Nat.le_of_ble_eq_true rfl, Nat.le_of_ble_eq_true rfl⟩ (by decide) rfl rfl rfl (Nat.le_of_ble_eq_true rfl) ⟨Nat.le_of_ble_eq_true rfl, Nat.le_of_ble_eq_true rfl⟩ dX6_readWall_86 (fun H locs hP hS => ?_)
          refine jz_eq (tgt := 100) F dX6_readWall_89 (by decide) hf (fun hf => ?_) (fun hf => ?_)
          · refine lv_iconst (v := (0 : Int32)) F.1.1 F.1.2.1 dX6_readWall_100 (by decide) ?_
            exact retC F hP hS dX6_readWall_101 (by decide) hf
          · refine lv_aload_n F.1.1 F.1.2.1 dX6_readWall_92 rfl (lv_at hl 0 rfl) ?_
            refine lv_iload_n F.1.1 F.1.2.1 dX6_readWall_93 rfl (lv_at hl 1 rfl) ?_
            obtain ⟨r_24, μ_22, hc_23, hf⟩ := bnd_some hf
            refine rV1 (R := rmX6_readWall) (As := [.int x1]) (rest := []) F hP hS hl (mX6_readLayer l G F.2.2.2.2 x1 _ _ _ hc_23) gX6_readWall_X6_readLayer rfl hdX6_readLayer rfl rfl rfl ⟨Nat.le_of_ble_eq_true rfl, Nat.le_of_ble_eq_true rfl⟩ (by decide) rfl rfl rfl (Nat.le_of_ble_eq_true rfl) ⟨Nat.le_of_ble_eq_true rfl, Nat.le_of_ble_eq_true rfl⟩ dX6_readWall_94 (fun H locs hP hS => ?_)
            refine jz_ne (tgt := 57) F dX6_readWall_97 (by decide) hf (fun hf => ?_) (fun hf => ?_)
            · exact ih57 μ_22 H locs ls hP hS (lv_sub hl [0, 1] rfl) hf
            · refine lv_iconst (v := (0 : Int32)) F.1.1 F.1.2.1 dX6_readWall_100 (by decide) ?_
              exact retC F hP hS dX6_readWall_101 (by decide) hf
set_option maxHeartbeats 4000000 in
set_option maxRecDepth 100000 in
theorem mX6_readWall (l : Launch) (G : GT) (hG : GD G) (x1 : Int32) (μ : Mem) (r : Int32) (μ' : Mem) (hf : fX6_readWall x1 μ = some (r, μ')) : Ct l yX6_readWall wsX6_readWall rmX6_readWall G [.ref (ga G 31), .int x1] μ (some (.int r)) μ' := by
  refine Ct.of (cc := cX6_readWall) (maxL := 2) (ret := (some .boolean)) (own := RX6) hG (by decide) rfl rfl (Nat.le_of_ble_eq_true rfl) ?_
  intro p e s m args below meth c ls H locs F hl hP hS
  have hl : lv_has ls 2 [(0, .ref (ga G 31)), (1, .int x1)] := hl
  unfold fX6_readWall at hf
  refine lv_aload_n F.1.1 F.1.2.1 dX6_readWall_0 rfl (lv_at hl 0 rfl) ?_
  refine lv_iconst (v := (0 : Int32)) F.1.1 F.1.2.1 dX6_readWall_1 (by decide) ?_
  refine pt_6_14 F hP hS 31 rfl inX6_readWall_6 kX6_readWall_95 dX6_readWall_2 hf (fun μ_1 H locs hP hS hf => ?_)
  refine lv_aload_n F.1.1 F.1.2.1 dX6_readWall_5 rfl (lv_at hl 0 rfl) ?_
  refine lv_iload_n F.1.1 F.1.2.1 dX6_readWall_6 rfl (lv_at hl 1 rfl) ?_
  refine lv_bipush (v := (119 : Int32)) F.1.1 F.1.2.1 dX6_readWall_7 (by decide) ?_
  obtain ⟨r_4, μ_2, hc_3, hf⟩ := bnd_some hf
  refine rV1 (R := rmX6_readWall) (As := [.int x1, .int (119 : Int32)]) (rest := []) F hP hS hl (mX6_isSign l G F.2.2.2.2 x1 (119 : Int32) _ _ _ hc_3) gX6_readWall_X6_isSign rfl hdX6_isSign rfl rfl rfl ⟨Nat.le_of_ble_eq_true rfl, Nat.le_of_ble_eq_true rfl⟩ (by decide) rfl rfl rfl (Nat.le_of_ble_eq_true rfl) ⟨Nat.le_of_ble_eq_true rfl, Nat.le_of_ble_eq_true rfl⟩ dX6_readWall_9 (fun H locs hP hS => ?_)
  refine jz_ne (tgt := 17) F dX6_readWall_12 (by decide) hf (fun hf => ?_) (fun hf => ?_)
  · refine lv_aload_n F.1.1 F.1.2.1 dX6_readWall_17 rfl (lv_at hl 0 rfl) ?_
    refine lv_aload_n F.1.1 F.1.2.1 dX6_readWall_18 rfl (lv_at hl 0 rfl) ?_
    refine lv_iload_n F.1.1 F.1.2.1 dX6_readWall_19 rfl (lv_at hl 1 rfl) ?_
    obtain ⟨r_7, μ_5, hc_6, hf⟩ := bnd_some hf
    refine rV1 (R := rmX6_readWall) (As := [.int x1]) (rest := [.ref (ga G 31)]) F hP hS hl (mX6_digit l G F.2.2.2.2 x1 _ _ _ hc_6) gX6_readWall_X6_digit rfl hdX6_digit rfl rfl rfl ⟨Nat.le_of_ble_eq_true rfl, Nat.le_of_ble_eq_true rfl⟩ (by decide) rfl rfl rfl (Nat.le_of_ble_eq_true rfl) ⟨Nat.le_of_ble_eq_true rfl, Nat.le_of_ble_eq_true rfl⟩ dX6_readWall_20 (fun H locs hP hS => ?_)
    refine pt_6_12 F hP hS 31 rfl inX6_readWall_6 kX6_readWall_83 dX6_readWall_23 hf (fun μ_8 H locs hP hS hf => ?_)
    refine lv_aload_n F.1.1 F.1.2.1 dX6_readWall_26 rfl (lv_at hl 0 rfl) ?_
    refine gt_6_12 F hP 31 rfl inX6_readWall_6 kX6_readWall_83 dX6_readWall_27 ?_
    refine lv_bipush (v := (-9 : Int32)) F.1.1 F.1.2.1 dX6_readWall_30 (by decide) ?_
    refine jc_ne (tgt := 37) F dX6_readWall_32 (by decide) hf (fun hf => ?_) (fun hf => ?_)
    · refine lv_aload_n F.1.1 F.1.2.1 dX6_readWall_37 rfl (lv_at hl 0 rfl) ?_
      refine lv_aload_n F.1.1 F.1.2.1 dX6_readWall_38 rfl (lv_at hl 0 rfl) ?_
      refine lv_iload_n F.1.1 F.1.2.1 dX6_readWall_39 rfl (lv_at hl 1 rfl) ?_
      obtain ⟨r_11, μ_9, hc_10, hf⟩ := bnd_some hf
      refine rV1 (R := rmX6_readWall) (As := [.int x1]) (rest := [.ref (ga G 31)]) F hP hS hl (mX6_digit l G F.2.2.2.2 x1 _ _ _ hc_10) gX6_readWall_X6_digit rfl hdX6_digit rfl rfl rfl ⟨Nat.le_of_ble_eq_true rfl, Nat.le_of_ble_eq_true rfl⟩ (by decide) rfl rfl rfl (Nat.le_of_ble_eq_true rfl) ⟨Nat.le_of_ble_eq_true rfl, Nat.le_of_ble_eq_true rfl⟩ dX6_readWall_40 (fun H locs hP hS => ?_)
      refine pt_6_13 F hP hS 31 rfl inX6_readWall_6 kX6_readWall_89 dX6_readWall_43 hf (fun μ_12 H locs hP hS hf => ?_)
      refine lv_aload_n F.1.1 F.1.2.1 dX6_readWall_46 rfl (lv_at hl 0 rfl) ?_
      refine gt_6_13 F hP 31 rfl inX6_readWall_6 kX6_readWall_89 dX6_readWall_47 ?_
      refine lv_bipush (v := (-9 : Int32)) F.1.1 F.1.2.1 dX6_readWall_50 (by decide) ?_
      refine jc_ne (tgt := 57) F dX6_readWall_52 (by decide) hf (fun hf => ?_) (fun hf => ?_)
      · exact lX6_readWall_L57 l G F x1 _ _ FU μ_12 H locs ls hP hS (lv_sub hl [0, 1] rfl) hf
      · refine lv_iconst (v := (0 : Int32)) F.1.1 F.1.2.1 dX6_readWall_55 (by decide) ?_
        exact retC F hP hS dX6_readWall_56 (by decide) hf
    · refine lv_iconst (v := (0 : Int32)) F.1.1 F.1.2.1 dX6_readWall_35 (by decide) ?_
      exact retC F hP hS dX6_readWall_36 (by decide) hf
  · refine lv_iconst (v := (0 : Int32)) F.1.1 F.1.2.1 dX6_readWall_15 (by decide) ?_
    exact retC F hP hS dX6_readWall_16 (by decide) hf
abbrev rmX6_takeWall : Room := { frames := 0, cells := 0, slots := 0, locals := 0 }
theorem hdX6_takeWall : yX6_takeWall.cls = RX6 ∧ yX6_takeWall.cls ≠ "java/lang/invoke/MethodHandle" ∧ yX6_takeWall.cls ≠ "java/lang/invoke/VarHandle" ∧ (parseMethodDescriptor yX6_takeWall.desc).map (fun d => d.parameters.length) = some 0 := by decide +kernel
theorem kX6_takeWall_19 : Cond.fieldLink RX6 19 "PaperLayersModel" "kind" "[I" ∈ wsX6_takeWall := List.mem_cons_of_mem _ (List.mem_append_left _ (List.mem_of_getElem? (i := 6) rfl))
theorem kX6_takeWall_22 : Cond.fieldLink RX6 22 "PaperLayersModel" "hold" "[I" ∈ wsX6_takeWall := List.mem_cons_of_mem _ (List.mem_append_left _ (List.mem_of_getElem? (i := 8) rfl))
theorem kX6_takeWall_25 : Cond.fieldLink RX6 25 "PaperLayersModel" "advice" "[I" ∈ wsX6_takeWall := List.mem_cons_of_mem _ (List.mem_append_left _ (List.mem_of_getElem? (i := 9) rfl))
theorem kX6_takeWall_28 : Cond.fieldLink RX6 28 "PaperLayersModel" "read" "[I" ∈ wsX6_takeWall := List.mem_cons_of_mem _ (List.mem_append_left _ (List.mem_of_getElem? (i := 7) rfl))
theorem kX6_takeWall_56 : Cond.fieldLink RX6 56 "PaperLayersModel" "layers" "I" ∈ wsX6_takeWall := List.mem_cons_of_mem _ (List.mem_append_left _ (List.mem_of_getElem? (i := 5) rfl))
theorem kX6_takeWall_83 : Cond.fieldLink RX6 83 "PaperLayersModel" "readWarm" "I" ∈ wsX6_takeWall := List.mem_cons_of_mem _ (List.mem_append_left _ (List.mem_of_getElem? (i := 0) rfl))
theorem kX6_takeWall_86 : Cond.fieldLink RX6 86 "PaperLayersModel" "warmNow" "I" ∈ wsX6_takeWall := List.mem_cons_of_mem _ (List.mem_append_left _ (List.mem_of_getElem? (i := 1) rfl))
theorem kX6_takeWall_89 : Cond.fieldLink RX6 89 "PaperLayersModel" "readDamp" "I" ∈ wsX6_takeWall := List.mem_cons_of_mem _ (List.mem_append_left _ (List.mem_of_getElem? (i := 2) rfl))
theorem kX6_takeWall_92 : Cond.fieldLink RX6 92 "PaperLayersModel" "dampNow" "I" ∈ wsX6_takeWall := List.mem_cons_of_mem _ (List.mem_append_left _ (List.mem_of_getElem? (i := 3) rfl))
theorem kX6_takeWall_95 : Cond.fieldLink RX6 95 "PaperLayersModel" "readLayers" "I" ∈ wsX6_takeWall := List.mem_cons_of_mem _ (List.mem_append_left _ (List.mem_of_getElem? (i := 4) rfl))
theorem kX6_takeWall_98 : Cond.fieldLink RX6 98 "PaperLayersModel" "readings" "I" ∈ wsX6_takeWall := List.mem_cons_of_mem _ (List.mem_append_left _ (List.mem_of_getElem? (i := 10) rfl))
theorem inX6_takeWall_6 : ∀ w ∈ wsX60, w ∈ wsX6_takeWall := fun _ h => List.mem_cons_of_mem _ (List.mem_append_right _ (h))
set_option maxHeartbeats 4000000 in
set_option maxRecDepth 100000 in
theorem lX6_takeWall_L26 (l : Launch) (G : GT) {p : Program} {e : Env} {s : State} {m : MethodId} {args : Array Value} {below : List Frame} {meth : Method} {c : Code} (F : Fx p s m args meth c cX6_takeWall 2 wsX6_takeWall RX6 none G) (r : Unit) (μ' : Mem) : ∀ (fuel : Nat), ∀ (x1 : Int32) (μ : Mem) (H : Heap) (locs : List Loc) (ls : Array Slot), Hh G μ H → va_S (gA G) s.heap H locs → lv_has ls 2 [(0, .ref (ga G 31)), (1, .int x1)] → fX6_takeWall_L26 fuel x1 μ = some (r, μ') → W p l e rmX6_takeWall s m args below meth c H locs 0 0 (MQ below (Qg G none μ') args s 0 0 (gA G)) (F0 m 26 ls []) := by
  intro fuel
  induction fuel with
  | zero =>
    intro x1 μ H locs ls hP hS hl hf
    exact absurd hf (by intro h; cases h)
  | succ fuel ih26 =>
    intro x1 μ H locs ls hP hS hl hf
    have hf : sX6_takeWall_L26 (fX6_takeWall_L26 fuel) x1 μ = some (r, μ') := hf
    unfold sX6_takeWall_L26 at hf
    refine lv_iload_n F.1.1 F.1.2.1 dX6_takeWall_26 rfl (lv_at hl 1 rfl) ?_
    refine lv_aload_n F.1.1 F.1.2.1 dX6_takeWall_27 rfl (lv_at hl 0 rfl) ?_
    refine gt_6_5 F hP 31 rfl inX6_takeWall_6 kX6_takeWall_56 dX6_takeWall_28 ?_
    refine jc_ge (tgt := 86) F dX6_takeWall_31 (by decide) hf (fun hf => ?_) (fun hf => ?_)
    · refine lv_aload_n F.1.1 F.1.2.1 dX6_takeWall_86 rfl (lv_at hl 0 rfl) ?_
      refine lv_iconst (v := (0 : Int32)) F.1.1 F.1.2.1 dX6_takeWall_87 (by decide) ?_
      refine pt_6_22 F hP hS 31 rfl inX6_takeWall_6 kX6_takeWall_98 dX6_takeWall_88 hf (fun μ_4 H locs hP hS hf => ?_)
      exact retV F hP hS dX6_takeWall_91 hf
    · refine lv_aload_n F.1.1 F.1.2.1 dX6_takeWall_34 rfl (lv_at hl 0 rfl) ?_
      refine gt_6_8 F hP 31 rfl inX6_takeWall_6 kX6_takeWall_19 dX6_takeWall_35 ?_
      refine lv_iload_n F.1.1 F.1.2.1 dX6_takeWall_38 rfl (lv_at hl 1 rfl) ?_
      refine lv_aload_n F.1.1 F.1.2.1 dX6_takeWall_39 rfl (lv_at hl 0 rfl) ?_
      refine gt_6_15 F hP 31 rfl inX6_takeWall_6 kX6_takeWall_28 dX6_takeWall_40 ?_
      refine lv_iconst (v := (3 : Int32)) F.1.1 F.1.2.1 dX6_takeWall_43 (by decide) ?_
      refine lv_iload_n F.1.1 F.1.2.1 dX6_takeWall_44 rfl (lv_at hl 1 rfl) ?_
      refine lv_imul F.1.1 F.1.2.1 dX6_takeWall_45 ?_
      refine r_ial F hP 38 rfl rfl dX6_takeWall_46 hf (fun hf => ?_)
      refine r_ias F hP hS 35 rfl rfl dX6_takeWall_47 hf (fun μ_5 H locs hP hS hf => ?_)
      refine lv_aload_n F.1.1 F.1.2.1 dX6_takeWall_48 rfl (lv_at hl 0 rfl) ?_
      refine gt_6_9 F hP 31 rfl inX6_takeWall_6 kX6_takeWall_22 dX6_takeWall_49 ?_
      refine lv_iload_n F.1.1 F.1.2.1 dX6_takeWall_52 rfl (lv_at hl 1 rfl) ?_
      refine lv_aload_n F.1.1 F.1.2.1 dX6_takeWall_53 rfl (lv_at hl 0 rfl) ?_
      refine gt_6_15 F hP 31 rfl inX6_takeWall_6 kX6_takeWall_28 dX6_takeWall_54 ?_
      refine lv_iconst (v := (3 : Int32)) F.1.1 F.1.2.1 dX6_takeWall_57 (by decide) ?_
      refine lv_iload_n F.1.1 F.1.2.1 dX6_takeWall_58 rfl (lv_at hl 1 rfl) ?_
      refine lv_imul F.1.1 F.1.2.1 dX6_takeWall_59 ?_
      refine lv_iconst (v := (1 : Int32)) F.1.1 F.1.2.1 dX6_takeWall_60 (by decide) ?_
      refine lv_iadd F.1.1 F.1.2.1 dX6_takeWall_61 ?_
      refine r_ial F hP 38 rfl rfl dX6_takeWall_62 hf (fun hf => ?_)
      refine r_ias F hP hS 36 rfl rfl dX6_takeWall_63 hf (fun μ_6 H locs hP hS hf => ?_)
      refine lv_aload_n F.1.1 F.1.2.1 dX6_takeWall_64 rfl (lv_at hl 0 rfl) ?_
      refine gt_6_10 F hP 31 rfl inX6_takeWall_6 kX6_takeWall_25 dX6_takeWall_65 ?_
      refine lv_iload_n F.1.1 F.1.2.1 dX6_takeWall_68 rfl (lv_at hl 1 rfl) ?_
      refine lv_aload_n F.1.1 F.1.2.1 dX6_takeWall_69 rfl (lv_at hl 0 rfl) ?_
      refine gt_6_15 F hP 31 rfl inX6_takeWall_6 kX6_takeWall_28 dX6_takeWall_70 ?_
      refine lv_iconst (v := (3 : Int32)) F.1.1 F.1.2.1 dX6_takeWall_73 (by decide) ?_
      refine lv_iload_n F.1.1 F.1.2.1 dX6_takeWall_74 rfl (lv_at hl 1 rfl) ?_
      refine lv_imul F.1.1 F.1.2.1 dX6_takeWall_75 ?_
      refine lv_iconst (v := (2 : Int32)) F.1.1 F.1.2.1 dX6_takeWall_76 (by decide) ?_
      refine lv_iadd F.1.1 F.1.2.1 dX6_takeWall_77 ?_
      refine r_ial F hP 38 rfl rfl dX6_takeWall_78 hf (fun hf => ?_)
      refine r_ias F hP hS 37 rfl rfl dX6_takeWall_79 hf (fun μ_7 H locs hP hS hf => ?_)
      refine top_n hf (fun y_8 ey_8 hf => ?_)
      refine lv_iinc (v := y_8) (lv' := [(1, .int y_8), (0, .ref (ga G 31))]) F.1.1 F.1.2.1 dX6_takeWall_80 hl (k := 1) rfl ey_8 (by decide) rfl (fun ls hl => ?_)
      refine lv_goto (tgt := 26) F.1.1 F.1.2.1 dX6_takeWall_83 (by decide) ?_
      exact ih26 y_8 μ_7 H locs ls hP hS (lv_sub hl [1, 0] rfl) hf
set_option maxHeartbeats 4000000 in
set_option maxRecDepth 100000 in
theorem mX6_takeWall (l : Launch) (G : GT) (hG : GD G) (μ : Mem) (r : Unit) (μ' : Mem) (hf : fX6_takeWall μ = some (r, μ')) : Ct l yX6_takeWall wsX6_takeWall rmX6_takeWall G [.ref (ga G 31)] μ none μ' := by
  refine Ct.of (cc := cX6_takeWall) (maxL := 2) (ret := none) (own := RX6) hG (by decide) rfl rfl (Nat.le_of_ble_eq_true rfl) ?_
  intro p e s m args below meth c ls H locs F hl hP hS
  have hl : lv_has ls 2 [(0, .ref (ga G 31))] := hl
  unfold fX6_takeWall at hf
  refine lv_aload_n F.1.1 F.1.2.1 dX6_takeWall_0 rfl (lv_at hl 0 rfl) ?_
  refine lv_aload_n F.1.1 F.1.2.1 dX6_takeWall_1 rfl (lv_at hl 0 rfl) ?_
  refine gt_6_12 F hP 31 rfl inX6_takeWall_6 kX6_takeWall_83 dX6_takeWall_2 ?_
  refine pt_6_6 F hP hS 31 rfl inX6_takeWall_6 kX6_takeWall_86 dX6_takeWall_5 hf (fun μ_1 H locs hP hS hf => ?_)
  refine lv_aload_n F.1.1 F.1.2.1 dX6_takeWall_8 rfl (lv_at hl 0 rfl) ?_
  refine lv_aload_n F.1.1 F.1.2.1 dX6_takeWall_9 rfl (lv_at hl 0 rfl) ?_
  refine gt_6_13 F hP 31 rfl inX6_takeWall_6 kX6_takeWall_89 dX6_takeWall_10 ?_
  refine pt_6_7 F hP hS 31 rfl inX6_takeWall_6 kX6_takeWall_92 dX6_takeWall_13 hf (fun μ_2 H locs hP hS hf => ?_)
  refine lv_aload_n F.1.1 F.1.2.1 dX6_takeWall_16 rfl (lv_at hl 0 rfl) ?_
  refine lv_aload_n F.1.1 F.1.2.1 dX6_takeWall_17 rfl (lv_at hl 0 rfl) ?_
  refine gt_6_14 F hP 31 rfl inX6_takeWall_6 kX6_takeWall_95 dX6_takeWall_18 ?_
  refine pt_6_5 F hP hS 31 rfl inX6_takeWall_6 kX6_takeWall_56 dX6_takeWall_21 hf (fun μ_3 H locs hP hS hf => ?_)
  refine lv_iconst (v := (0 : Int32)) F.1.1 F.1.2.1 dX6_takeWall_24 (by decide) ?_
  refine lv_istore_n (lv' := [(1, .int (0 : Int32)), (0, .ref (ga G 31))]) F.1.1 F.1.2.1 dX6_takeWall_25 rfl hl (by decide) rfl (fun ls hl => ?_)
  exact lX6_takeWall_L26 l G F _ _ FU (0 : Int32) μ_3 H locs ls hP hS (lv_sub hl [1, 0] rfl) hf
abbrev rmX6_wall : Room := { frames := 4, cells := 0, slots := 0, locals := 87 }
theorem hdX6_wall : yX6_wall.cls = RX6 ∧ yX6_wall.cls ≠ "java/lang/invoke/MethodHandle" ∧ yX6_wall.cls ≠ "java/lang/invoke/VarHandle" ∧ (parseMethodDescriptor yX6_wall.desc).map (fun d => d.parameters.length) = some 4 := by decide +kernel
theorem kX6_wall_46 : Cond.fieldLink RX6 46 "PaperLayersModel" "fault" "I" ∈ wsX6_wall := List.mem_cons_of_mem _ (List.mem_append_left _ (List.mem_append_left _ (List.mem_of_getElem? (i := 0) rfl)))
theorem kX6_wall_56 : Cond.fieldLink RX6 56 "PaperLayersModel" "layers" "I" ∈ wsX6_wall := List.mem_cons_of_mem _ (List.mem_append_left _ (List.mem_append_left _ (List.mem_of_getElem? (i := 2) rfl)))
theorem kX6_wall_59 : Cond.fieldLink RX6 59 "PaperLayersModel" "at" "I" ∈ wsX6_wall := List.mem_cons_of_mem _ (List.mem_append_left _ (List.mem_append_left _ (List.mem_of_getElem? (i := 1) rfl)))
theorem inX6_wall_6 : ∀ w ∈ wsX60, w ∈ wsX6_wall := fun _ h => List.mem_cons_of_mem _ (List.mem_append_right _ (h))
set_option maxHeartbeats 4000000 in
set_option maxRecDepth 100000 in
theorem mX6_wall (l : Launch) (G : GT) (hG : GD G) (x1 : Int32) (x2 : Int32) (x3 : Int32) (x4 : Int32) (μ : Mem) (r : Int32) (μ' : Mem) (hf : fX6_wall x1 x2 x3 x4 μ = some (r, μ')) : Ct l yX6_wall wsX6_wall rmX6_wall G [.ref (ga G 31), .int x1, .int x2, .int x3, .int x4] μ (some (.int r)) μ' := by
  refine Ct.of (cc := cX6_wall) (maxL := 7) (ret := (some .int)) (own := RX6) hG (by decide) rfl rfl (Nat.le_of_ble_eq_true rfl) ?_
  intro p e s m args below meth c ls H locs F hl hP hS
  have hl : lv_has ls 7 [(0, .ref (ga G 31)), (1, .int x1), (2, .int x2), (3, .int x3), (4, .int x4)] := hl
  unfold fX6_wall at hf
  refine lv_aload_n F.1.1 F.1.2.1 dX6_wall_0 rfl (lv_at hl 0 rfl) ?_
  refine lv_iconst (v := (0 : Int32)) F.1.1 F.1.2.1 dX6_wall_1 (by decide) ?_
  refine pt_6_0 F hP hS 31 rfl inX6_wall_6 kX6_wall_46 dX6_wall_2 hf (fun μ_1 H locs hP hS hf => ?_)
  refine lv_iload_n F.1.1 F.1.2.1 dX6_wall_5 rfl (lv_at hl 1 rfl) ?_
  obtain ⟨r_4, μ_2, hc_3, hf⟩ := bnd_some hf
  refine rS1 (R := rmX6_wall) (As := [.int x1]) (rest := []) F hP hS hl (mX6_isSheet l G F.2.2.2.2 x1 _ _ _ hc_3) gX6_wall_X6_isSheet hdX6_isSheet rfl rfl rfl ⟨Nat.le_of_ble_eq_true rfl, Nat.le_of_ble_eq_true rfl⟩ rfl rfl (Nat.le_of_ble_eq_true rfl) ⟨Nat.le_of_ble_eq_true rfl, Nat.le_of_ble_eq_true rfl⟩ dX6_wall_6 (fun H locs hP hS => ?_)
  refine jz_ne (tgt := 14) F dX6_wall_9 (by decide) hf (fun hf => ?_) (fun hf => ?_)
  · refine lv_iload_n F.1.1 F.1.2.1 dX6_wall_14 rfl (lv_at hl 2 rfl) ?_
    obtain ⟨r_7, μ_5, hc_6, hf⟩ := bnd_some hf
    refine rS1 (R := rmX6_wall) (As := [.int x2]) (rest := []) F hP hS hl (mX6_isSort l G F.2.2.2.2 x2 _ _ _ hc_6) gX6_wall_X6_isSort hdX6_isSort rfl rfl rfl ⟨Nat.le_of_ble_eq_true rfl, Nat.le_of_ble_eq_true rfl⟩ rfl rfl (Nat.le_of_ble_eq_true rfl) ⟨Nat.le_of_ble_eq_true rfl, Nat.le_of_ble_eq_true rfl⟩ dX6_wall_15 (fun H locs hP hS => ?_)
    refine jz_ne (tgt := 24) F dX6_wall_18 (by decide) hf (fun hf => ?_) (fun hf => ?_)
    · refine lv_aload_n F.1.1 F.1.2.1 dX6_wall_24 rfl (lv_at hl 0 rfl) ?_
      refine lv_iload_n F.1.1 F.1.2.1 dX6_wall_25 rfl (lv_at hl 1 rfl) ?_
      refine lv_iload_n F.1.1 F.1.2.1 dX6_wall_26 rfl (lv_at hl 2 rfl) ?_
      refine lv_iload_n F.1.1 F.1.2.1 dX6_wall_27 rfl (lv_at hl 3 rfl) ?_
      refine lv_iload F.1.1 F.1.2.1 dX6_wall_28 (lv_at hl 4 rfl) ?_
      obtain ⟨r_10, μ_8, hc_9, hf⟩ := bnd_some hf
      refine rV1 (R := rmX6_wall) (As := [.int x1, .int x2, .int x3, .int x4]) (rest := []) F hP hS hl (mX6_against l G F.2.2.2.2 x1 x2 x3 x4 _ _ _ hc_9) gX6_wall_X6_against rfl hdX6_against rfl rfl rfl ⟨Nat.le_of_ble_eq_true rfl, Nat.le_of_ble_eq_true rfl⟩ (by decide) rfl rfl rfl (Nat.le_of_ble_eq_true rfl) ⟨Nat.le_of_ble_eq_true rfl, Nat.le_of_ble_eq_true rfl⟩ dX6_wall_30 (fun H locs hP hS => ?_)
      refine lv_istore (lv' := [(5, .int r_10), (0, .ref (ga G 31)), (1, .int x1), (2, .int x2), (3, .int x3), (4, .int x4)]) F.1.1 F.1.2.1 dX6_wall_33 hl (by decide) rfl (fun ls hl => ?_)
      refine lv_iload F.1.1 F.1.2.1 dX6_wall_35 (lv_at hl 0 rfl) ?_
      refine jz_eq (tgt := 47) F dX6_wall_37 (by decide) hf (fun hf => ?_) (fun hf => ?_)
      · refine lv_bipush (v := (60 : Int32)) F.1.1 F.1.2.1 dX6_wall_47 (by decide) ?_
        refine lv_iload_n F.1.1 F.1.2.1 dX6_wall_49 rfl (lv_at hl 2 rfl) ?_
        refine lv_imul F.1.1 F.1.2.1 dX6_wall_50 ?_
        refine lv_iload_n F.1.1 F.1.2.1 dX6_wall_51 rfl (lv_at hl 4 rfl) ?_
        refine lv_iadd F.1.1 F.1.2.1 dX6_wall_52 ?_
        refine top_i hf (fun y_11 hf => ?_)
        refine lv_istore (lv' := [(6, .int y_11), (5, .int r_10), (0, .ref (ga G 31)), (1, .int x1), (2, .int x2), (3, .int x3), (4, .int x4)]) F.1.1 F.1.2.1 dX6_wall_53 hl (by decide) rfl (fun ls hl => ?_)
        refine lv_aload_n F.1.1 F.1.2.1 dX6_wall_55 rfl (lv_at hl 2 rfl) ?_
        refine lv_iload F.1.1 F.1.2.1 dX6_wall_56 (lv_at hl 0 rfl) ?_
        refine pt_6_11 F hP hS 31 rfl inX6_wall_6 kX6_wall_59 dX6_wall_58 hf (fun μ_12 H locs hP hS hf => ?_)
        refine lv_aload_n F.1.1 F.1.2.1 dX6_wall_61 rfl (lv_at hl 2 rfl) ?_
        refine lv_iload F.1.1 F.1.2.1 dX6_wall_62 (lv_at hl 0 rfl) ?_
        refine lv_iload F.1.1 F.1.2.1 dX6_wall_64 (lv_at hl 6 rfl) ?_
        refine lv_iadd F.1.1 F.1.2.1 dX6_wall_66 ?_
        obtain ⟨r_15, μ_13, hc_14, hf⟩ := bnd_some hf
        refine rV1 (R := rmX6_wall) (As := [.int (y_11 + x4)]) (rest := []) F hP hS hl (mX6_readWall l G F.2.2.2.2 (y_11 + x4) _ _ _ hc_14) gX6_wall_X6_readWall rfl hdX6_readWall rfl rfl rfl ⟨Nat.le_of_ble_eq_true rfl, Nat.le_of_ble_eq_true rfl⟩ (by decide) rfl rfl rfl (Nat.le_of_ble_eq_true rfl) ⟨Nat.le_of_ble_eq_true rfl, Nat.le_of_ble_eq_true rfl⟩ dX6_wall_67 (fun H locs hP hS => ?_)
        refine jz_ne (tgt := 84) F dX6_wall_70 (by decide) hf (fun hf => ?_) (fun hf => ?_)
        · refine lv_aload_n F.1.1 F.1.2.1 dX6_wall_84 rfl (lv_at hl 2 rfl) ?_
          obtain ⟨u_18, μ_16, hc_17, hf⟩ := bnd_some hf
          refine rVv (R := rmX6_wall) (As := []) (rest := []) F hP hS hl (mX6_takeWall l G F.2.2.2.2  _ _ _ hc_17) gX6_wall_X6_takeWall rfl hdX6_takeWall rfl rfl rfl ⟨Nat.le_of_ble_eq_true rfl, Nat.le_of_ble_eq_true rfl⟩ (by decide) rfl rfl rfl (Nat.le_of_ble_eq_true rfl) ⟨Nat.le_of_ble_eq_true rfl, Nat.le_of_ble_eq_true rfl⟩ dX6_wall_85 (fun H locs hP hS => ?_)
          refine lv_aload_n F.1.1 F.1.2.1 dX6_wall_88 rfl (lv_at hl 2 rfl) ?_
          refine gt_6_5 F hP 31 rfl inX6_wall_6 kX6_wall_56 dX6_wall_89 ?_
          exact retI F hP hS dX6_wall_92 hf
        · refine lv_bipush (v := (-100 : Int32)) F.1.1 F.1.2.1 dX6_wall_73 (by decide) ?_
          refine lv_aload_n F.1.1 F.1.2.1 dX6_wall_75 rfl (lv_at hl 2 rfl) ?_
          refine gt_6_11 F hP 31 rfl inX6_wall_6 kX6_wall_59 dX6_wall_76 ?_
          refine lv_iload F.1.1 F.1.2.1 dX6_wall_79 (lv_at hl 0 rfl) ?_
          refine lv_isub F.1.1 F.1.2.1 dX6_wall_81 ?_
          refine lv_isub F.1.1 F.1.2.1 dX6_wall_82 ?_
          exact retI F hP hS dX6_wall_83 hf
      · refine lv_aload_n F.1.1 F.1.2.1 dX6_wall_40 rfl (lv_at hl 1 rfl) ?_
        refine lv_iload F.1.1 F.1.2.1 dX6_wall_41 (lv_at hl 0 rfl) ?_
        obtain ⟨r_21, μ_19, hc_20, hf⟩ := bnd_some hf
        refine rV1 (R := rmX6_wall) (As := [.int r_10]) (rest := []) F hP hS hl (mX6_fails l G F.2.2.2.2 r_10 _ _ _ hc_20) gX6_wall_X6_fails rfl hdX6_fails rfl rfl rfl ⟨Nat.le_of_ble_eq_true rfl, Nat.le_of_ble_eq_true rfl⟩ (by decide) rfl rfl rfl (Nat.le_of_ble_eq_true rfl) ⟨Nat.le_of_ble_eq_true rfl, Nat.le_of_ble_eq_true rfl⟩ dX6_wall_43 (fun H locs hP hS => ?_)
        exact retI F hP hS dX6_wall_46 hf
    · refine lv_bipush (v := (-2 : Int32)) F.1.1 F.1.2.1 dX6_wall_21 (by decide) ?_
      exact retI F hP hS dX6_wall_23 hf
  · refine lv_iconst (v := (-1 : Int32)) F.1.1 F.1.2.1 dX6_wall_12 (by decide) ?_
    exact retI F hP hS dX6_wall_13 hf
abbrev rmX6_gripOf : Room := { frames := 0, cells := 0, slots := 0, locals := 0 }
theorem hdX6_gripOf : yX6_gripOf.cls = RX6 ∧ yX6_gripOf.cls ≠ "java/lang/invoke/MethodHandle" ∧ yX6_gripOf.cls ≠ "java/lang/invoke/VarHandle" ∧ (parseMethodDescriptor yX6_gripOf.desc).map (fun d => d.parameters.length) = some 1 := by decide +kernel
theorem kX6_gripOf_19 : Cond.fieldLink RX6 19 "PaperLayersModel" "kind" "[I" ∈ wsX6_gripOf := List.mem_cons_of_mem _ (List.mem_append_left _ (List.mem_of_getElem? (i := 0) rfl))
theorem kX6_gripOf_22 : Cond.fieldLink RX6 22 "PaperLayersModel" "hold" "[I" ∈ wsX6_gripOf := List.mem_cons_of_mem _ (List.mem_append_left _ (List.mem_of_getElem? (i := 1) rfl))
theorem inX6_gripOf_6 : ∀ w ∈ wsX60, w ∈ wsX6_gripOf := fun _ h => List.mem_cons_of_mem _ (List.mem_append_right _ (h))
set_option maxHeartbeats 4000000 in
set_option maxRecDepth 100000 in
theorem mX6_gripOf (l : Launch) (G : GT) (hG : GD G) (x1 : Int32) (μ : Mem) (r : Int32) (μ' : Mem) (hf : fX6_gripOf x1 μ = some (r, μ')) : Ct l yX6_gripOf wsX6_gripOf rmX6_gripOf G [.ref (ga G 31), .int x1] μ (some (.int r)) μ' := by
  refine Ct.of (cc := cX6_gripOf) (maxL := 2) (ret := (some .int)) (own := RX6) hG (by decide) rfl rfl (Nat.le_of_ble_eq_true rfl) ?_
  intro p e s m args below meth c ls H locs F hl hP hS
  have hl : lv_has ls 2 [(0, .ref (ga G 31)), (1, .int x1)] := hl
  unfold fX6_gripOf at hf
  refine lv_aload_n F.1.1 F.1.2.1 dX6_gripOf_0 rfl (lv_at hl 0 rfl) ?_
  refine gt_6_8 F hP 31 rfl inX6_gripOf_6 kX6_gripOf_19 dX6_gripOf_1 ?_
  refine lv_iload_n F.1.1 F.1.2.1 dX6_gripOf_4 rfl (lv_at hl 1 rfl) ?_
  refine r_ial F hP 35 rfl rfl dX6_gripOf_5 hf (fun hf => ?_)
  refine jz_ne (tgt := 18) F dX6_gripOf_6 (by decide) hf (fun hf => ?_) (fun hf => ?_)
  · refine lv_aload_n F.1.1 F.1.2.1 dX6_gripOf_18 rfl (lv_at hl 0 rfl) ?_
    refine gt_6_8 F hP 31 rfl inX6_gripOf_6 kX6_gripOf_19 dX6_gripOf_19 ?_
    refine lv_iload_n F.1.1 F.1.2.1 dX6_gripOf_22 rfl (lv_at hl 1 rfl) ?_
    refine r_ial F hP 35 rfl rfl dX6_gripOf_23 hf (fun hf => ?_)
    refine lv_iconst (v := (1 : Int32)) F.1.1 F.1.2.1 dX6_gripOf_24 (by decide) ?_
    refine jc_ne (tgt := 39) F dX6_gripOf_25 (by decide) hf (fun hf => ?_) (fun hf => ?_)
    · refine lv_iconst (v := (2 : Int32)) F.1.1 F.1.2.1 dX6_gripOf_39 (by decide) ?_
      refine lv_aload_n F.1.1 F.1.2.1 dX6_gripOf_40 rfl (lv_at hl 0 rfl) ?_
      refine gt_6_9 F hP 31 rfl inX6_gripOf_6 kX6_gripOf_22 dX6_gripOf_41 ?_
      refine lv_iload_n F.1.1 F.1.2.1 dX6_gripOf_44 rfl (lv_at hl 1 rfl) ?_
      refine r_ial F hP 36 rfl rfl dX6_gripOf_45 hf (fun hf => ?_)
      refine lv_imul F.1.1 F.1.2.1 dX6_gripOf_46 ?_
      exact retI F hP hS dX6_gripOf_47 hf
    · refine lv_aload_n F.1.1 F.1.2.1 dX6_gripOf_28 rfl (lv_at hl 0 rfl) ?_
      refine gt_6_9 F hP 31 rfl inX6_gripOf_6 kX6_gripOf_22 dX6_gripOf_29 ?_
      refine lv_iload_n F.1.1 F.1.2.1 dX6_gripOf_32 rfl (lv_at hl 1 rfl) ?_
      refine r_ial F hP 36 rfl rfl dX6_gripOf_33 hf (fun hf => ?_)
      refine lv_iconst (v := (1 : Int32)) F.1.1 F.1.2.1 dX6_gripOf_34 (by decide) ?_
      refine lv_iadd F.1.1 F.1.2.1 dX6_gripOf_35 ?_
      refine lv_goto (tgt := 47) F.1.1 F.1.2.1 dX6_gripOf_36 (by decide) ?_
      exact retI F hP hS dX6_gripOf_47 hf
  · refine lv_aload_n F.1.1 F.1.2.1 dX6_gripOf_9 rfl (lv_at hl 0 rfl) ?_
    refine gt_6_9 F hP 31 rfl inX6_gripOf_6 kX6_gripOf_22 dX6_gripOf_10 ?_
    refine lv_iload_n F.1.1 F.1.2.1 dX6_gripOf_13 rfl (lv_at hl 1 rfl) ?_
    refine r_ial F hP 36 rfl rfl dX6_gripOf_14 hf (fun hf => ?_)
    refine lv_goto (tgt := 47) F.1.1 F.1.2.1 dX6_gripOf_15 (by decide) ?_
    exact retI F hP hS dX6_gripOf_47 hf
abbrev rmX6_orderAsIs : Room := { frames := 0, cells := 0, slots := 0, locals := 0 }
theorem hdX6_orderAsIs : yX6_orderAsIs.cls = RX6 ∧ yX6_orderAsIs.cls ≠ "java/lang/invoke/MethodHandle" ∧ yX6_orderAsIs.cls ≠ "java/lang/invoke/VarHandle" ∧ (parseMethodDescriptor yX6_orderAsIs.desc).map (fun d => d.parameters.length) = some 0 := by decide +kernel
theorem kX6_orderAsIs_31 : Cond.fieldLink RX6 31 "PaperLayersModel" "order" "[I" ∈ wsX6_orderAsIs := List.mem_cons_of_mem _ (List.mem_append_left _ (List.mem_of_getElem? (i := 1) rfl))
theorem kX6_orderAsIs_56 : Cond.fieldLink RX6 56 "PaperLayersModel" "layers" "I" ∈ wsX6_orderAsIs := List.mem_cons_of_mem _ (List.mem_append_left _ (List.mem_of_getElem? (i := 0) rfl))
theorem inX6_orderAsIs_6 : ∀ w ∈ wsX60, w ∈ wsX6_orderAsIs := fun _ h => List.mem_cons_of_mem _ (List.mem_append_right _ (h))
set_option maxHeartbeats 4000000 in
set_option maxRecDepth 100000 in
theorem lX6_orderAsIs_L2 (l : Launch) (G : GT) {p : Program} {e : Env} {s : State} {m : MethodId} {args : Array Value} {below : List Frame} {meth : Method} {c : Code} (F : Fx p s m args meth c cX6_orderAsIs 2 wsX6_orderAsIs RX6 none G) (r : Unit) (μ' : Mem) : ∀ (fuel : Nat), ∀ (x1 : Int32) (μ : Mem) (H : Heap) (locs : List Loc) (ls : Array Slot), Hh G μ H → va_S (gA G) s.heap H locs → lv_has ls 2 [(0, .ref (ga G 31)), (1, .int x1)] → fX6_orderAsIs_L2 fuel x1 μ = some (r, μ') → W p l e rmX6_orderAsIs s m args below meth c H locs 0 0 (MQ below (Qg G none μ') args s 0 0 (gA G)) (F0 m 2 ls []) := by
  intro fuel
  induction fuel with
  | zero =>
    intro x1 μ H locs ls hP hS hl hf
    exact absurd hf (by intro h; cases h)
  | succ fuel ih2 =>
    intro x1 μ H locs ls hP hS hl hf
    have hf : sX6_orderAsIs_L2 (fX6_orderAsIs_L2 fuel) x1 μ = some (r, μ') := hf
    unfold sX6_orderAsIs_L2 at hf
    refine lv_iload_n F.1.1 F.1.2.1 dX6_orderAsIs_2 rfl (lv_at hl 1 rfl) ?_
    refine lv_aload_n F.1.1 F.1.2.1 dX6_orderAsIs_3 rfl (lv_at hl 0 rfl) ?_
    refine gt_6_5 F hP 31 rfl inX6_orderAsIs_6 kX6_orderAsIs_56 dX6_orderAsIs_4 ?_
    refine jc_ge (tgt := 23) F dX6_orderAsIs_7 (by decide) hf (fun hf => ?_) (fun hf => ?_)
    · exact retV F hP hS dX6_orderAsIs_23 hf
    · refine lv_aload_n F.1.1 F.1.2.1 dX6_orderAsIs_10 rfl (lv_at hl 0 rfl) ?_
      refine gt_6_16 F hP 31 rfl inX6_orderAsIs_6 kX6_orderAsIs_31 dX6_orderAsIs_11 ?_
      refine lv_iload_n F.1.1 F.1.2.1 dX6_orderAsIs_14 rfl (lv_at hl 1 rfl) ?_
      refine lv_iload_n F.1.1 F.1.2.1 dX6_orderAsIs_15 rfl (lv_at hl 1 rfl) ?_
      refine r_ias F hP hS 39 rfl rfl dX6_orderAsIs_16 hf (fun μ_1 H locs hP hS hf => ?_)
      refine top_n hf (fun y_2 ey_2 hf => ?_)
      refine lv_iinc (v := y_2) (lv' := [(1, .int y_2), (0, .ref (ga G 31))]) F.1.1 F.1.2.1 dX6_orderAsIs_17 hl (k := 1) rfl ey_2 (by decide) rfl (fun ls hl => ?_)
      refine lv_goto (tgt := 2) F.1.1 F.1.2.1 dX6_orderAsIs_20 (by decide) ?_
      exact ih2 y_2 μ_1 H locs ls hP hS (lv_sub hl [1, 0] rfl) hf
set_option maxHeartbeats 4000000 in
set_option maxRecDepth 100000 in
theorem mX6_orderAsIs (l : Launch) (G : GT) (hG : GD G) (μ : Mem) (r : Unit) (μ' : Mem) (hf : fX6_orderAsIs μ = some (r, μ')) : Ct l yX6_orderAsIs wsX6_orderAsIs rmX6_orderAsIs G [.ref (ga G 31)] μ none μ' := by
  refine Ct.of (cc := cX6_orderAsIs) (maxL := 2) (ret := none) (own := RX6) hG (by decide) rfl rfl (Nat.le_of_ble_eq_true rfl) ?_
  intro p e s m args below meth c ls H locs F hl hP hS
  have hl : lv_has ls 2 [(0, .ref (ga G 31))] := hl
  unfold fX6_orderAsIs at hf
  refine lv_iconst (v := (0 : Int32)) F.1.1 F.1.2.1 dX6_orderAsIs_0 (by decide) ?_
  refine lv_istore_n (lv' := [(1, .int (0 : Int32)), (0, .ref (ga G 31))]) F.1.1 F.1.2.1 dX6_orderAsIs_1 rfl hl (by decide) rfl (fun ls hl => ?_)
  exact lX6_orderAsIs_L2 l G F _ _ FU (0 : Int32) μ H locs ls hP hS (lv_sub hl [1, 0] rfl) hf
abbrev rmX6_liftedBy : Room := { frames := 1, cells := 0, slots := 0, locals := 21 }
theorem hdX6_liftedBy : yX6_liftedBy.cls = RX6 ∧ yX6_liftedBy.cls ≠ "java/lang/invoke/MethodHandle" ∧ yX6_liftedBy.cls ≠ "java/lang/invoke/VarHandle" ∧ (parseMethodDescriptor yX6_liftedBy.desc).map (fun d => d.parameters.length) = some 3 := by decide +kernel
theorem kX6_liftedBy_31 : Cond.fieldLink RX6 31 "PaperLayersModel" "order" "[I" ∈ wsX6_liftedBy := List.mem_cons_of_mem _ (List.mem_append_left _ (List.mem_of_getElem? (i := 1) rfl))
theorem kX6_liftedBy_56 : Cond.fieldLink RX6 56 "PaperLayersModel" "layers" "I" ∈ wsX6_liftedBy := List.mem_cons_of_mem _ (List.mem_append_left _ (List.mem_of_getElem? (i := 0) rfl))
theorem inX6_liftedBy_6 : ∀ w ∈ wsX60, w ∈ wsX6_liftedBy := fun _ h => List.mem_cons_of_mem _ (List.mem_append_right _ (h))
set_option maxHeartbeats 4000000 in
set_option maxRecDepth 100000 in
theorem lX6_liftedBy_L6 (l : Launch) (G : GT) {p : Program} {e : Env} {s : State} {m : MethodId} {args : Array Value} {below : List Frame} {meth : Method} {c : Code} (F : Fx p s m args meth c cX6_liftedBy 7 wsX6_liftedBy RX6 (some .int) G) (x1 : Int32) (x2 : Int32) (x3 : Int32) (r : Int32) (μ' : Mem) : ∀ (fuel : Nat), ∀ (x4 : Int32) (x5 : Int32) (μ : Mem) (H : Heap) (locs : List Loc) (ls : Array Slot), Hh G μ H → va_S (gA G) s.heap H locs → lv_has ls 7 [(0, .ref (ga G 31)), (1, .int x1), (2, .int x2), (3, .int x3), (4, .int x4), (5, .int x5)] → fX6_liftedBy_L6 x1 x2 x3 fuel x4 x5 μ = some (r, μ') → W p l e rmX6_liftedBy s m args below meth c H locs 0 0 (MQ below (Qg G (some (.int r)) μ') args s 0 0 (gA G)) (F0 m 6 ls []) := by
  intro fuel
  induction fuel with
  | zero =>
    intro x4 x5 μ H locs ls hP hS hl hf
    exact absurd hf (by intro h; cases h)
  | succ fuel ih6 =>
    intro x4 x5 μ H locs ls hP hS hl hf
    have hf : sX6_liftedBy_L6 (fX6_liftedBy_L6 x1 x2 x3 fuel) x1 x2 x3 x4 x5 μ = some (r, μ') := hf
    unfold sX6_liftedBy_L6 at hf
    refine lv_iload F.1.1 F.1.2.1 dX6_liftedBy_6 (lv_at hl 5 rfl) ?_
    refine lv_aload_n F.1.1 F.1.2.1 dX6_liftedBy_8 rfl (lv_at hl 0 rfl) ?_
    refine gt_6_5 F hP 31 rfl inX6_liftedBy_6 kX6_liftedBy_56 dX6_liftedBy_9 ?_
    refine jc_ge (tgt := 63) F dX6_liftedBy_12 (by decide) hf (fun hf => ?_) (fun hf => ?_)
    · refine lv_iload F.1.1 F.1.2.1 dX6_liftedBy_63 (lv_at hl 4 rfl) ?_
      exact retI F hP hS dX6_liftedBy_65 hf
    · refine lv_aload_n F.1.1 F.1.2.1 dX6_liftedBy_15 rfl (lv_at hl 0 rfl) ?_
      refine gt_6_16 F hP 31 rfl inX6_liftedBy_6 kX6_liftedBy_31 dX6_liftedBy_16 ?_
      refine lv_iload F.1.1 F.1.2.1 dX6_liftedBy_19 (lv_at hl 5 rfl) ?_
      refine r_ial F hP 39 rfl rfl dX6_liftedBy_21 hf (fun hf => ?_)
      refine top_i hf (fun y_1 hf => ?_)
      refine lv_istore (lv' := [(6, .int y_1), (0, .ref (ga G 31)), (1, .int x1), (2, .int x2), (3, .int x3), (4, .int x4), (5, .int x5)]) F.1.1 F.1.2.1 dX6_liftedBy_22 hl (by decide) rfl (fun ls hl => ?_)
      refine lv_iload_n F.1.1 F.1.2.1 dX6_liftedBy_24 rfl (lv_at hl 4 rfl) ?_
      refine lv_iload F.1.1 F.1.2.1 dX6_liftedBy_25 (lv_at hl 0 rfl) ?_
      obtain ⟨r_4, μ_2, hc_3, hf⟩ := bnd_some hf
      refine rS1 (R := rmX6_liftedBy) (As := [.int x3, .int y_1]) (rest := []) F hP hS hl (mX6_isOf l G F.2.2.2.2 x3 y_1 _ _ _ hc_3) gX6_liftedBy_X6_isOf hdX6_isOf rfl rfl rfl ⟨Nat.le_of_ble_eq_true rfl, Nat.le_of_ble_eq_true rfl⟩ rfl rfl (Nat.le_of_ble_eq_true rfl) ⟨Nat.le_of_ble_eq_true rfl, Nat.le_of_ble_eq_true rfl⟩ dX6_liftedBy_27 (fun H locs hP hS => ?_)
      refine jz_ne (tgt := 57) F dX6_liftedBy_30 (by decide) hf (fun hf => ?_) (fun hf => ?_)
      · refine top_n hf (fun y_5 ey_5 hf => ?_)
        refine lv_iinc (v := y_5) (lv' := [(5, .int y_5), (6, .int y_1), (0, .ref (ga G 31)), (1, .int x1), (2, .int x2), (3, .int x3), (4, .int x4)]) F.1.1 F.1.2.1 dX6_liftedBy_57 hl (k := 6) rfl ey_5 (by decide) rfl (fun ls hl => ?_)
        refine lv_goto (tgt := 6) F.1.1 F.1.2.1 dX6_liftedBy_60 (by decide) ?_
        exact ih6 x4 y_5 μ_2 H locs ls hP hS (lv_sub hl [2, 3, 4, 5, 6, 0] rfl) hf
      · refine lv_iload_n F.1.1 F.1.2.1 dX6_liftedBy_33 rfl (lv_at hl 2 rfl) ?_
        refine lv_iload_n F.1.1 F.1.2.1 dX6_liftedBy_34 rfl (lv_at hl 3 rfl) ?_
        refine lv_isub F.1.1 F.1.2.1 dX6_liftedBy_35 ?_
        refine lv_aload_n F.1.1 F.1.2.1 dX6_liftedBy_36 rfl (lv_at hl 1 rfl) ?_
        refine lv_iload F.1.1 F.1.2.1 dX6_liftedBy_37 (lv_at hl 0 rfl) ?_
        obtain ⟨r_8, μ_6, hc_7, hf⟩ := bnd_some hf
        refine rV1 (R := rmX6_liftedBy) (As := [.int y_1]) (rest := [.int (x1 - x2)]) F hP hS hl (mX6_gripOf l G F.2.2.2.2 y_1 _ _ _ hc_7) gX6_liftedBy_X6_gripOf rfl hdX6_gripOf rfl rfl rfl ⟨Nat.le_of_ble_eq_true rfl, Nat.le_of_ble_eq_true rfl⟩ (by decide) rfl rfl rfl (Nat.le_of_ble_eq_true rfl) ⟨Nat.le_of_ble_eq_true rfl, Nat.le_of_ble_eq_true rfl⟩ dX6_liftedBy_39 (fun H locs hP hS => ?_)
        refine jc_ge (tgt := 48) F dX6_liftedBy_42 (by decide) hf (fun hf => ?_) (fun hf => ?_)
        · refine lv_iload F.1.1 F.1.2.1 dX6_liftedBy_48 (lv_at hl 5 rfl) ?_
          refine lv_iconst (v := (1 : Int32)) F.1.1 F.1.2.1 dX6_liftedBy_50 (by decide) ?_
          refine lv_iload F.1.1 F.1.2.1 dX6_liftedBy_51 (lv_at hl 0 rfl) ?_
          refine lv_ishl F.1.1 F.1.2.1 dX6_liftedBy_53 ?_
          refine lv_ior F.1.1 F.1.2.1 dX6_liftedBy_54 ?_
          refine top_i hf (fun y_9 hf => ?_)
          refine lv_istore (lv' := [(4, .int y_9), (6, .int y_1), (0, .ref (ga G 31)), (1, .int x1), (2, .int x2), (3, .int x3), (5, .int x5)]) F.1.1 F.1.2.1 dX6_liftedBy_55 hl (by decide) rfl (fun ls hl => ?_)
          refine top_n hf (fun y_10 ey_10 hf => ?_)
          refine lv_iinc (v := y_10) (lv' := [(5, .int y_10), (4, .int y_9), (6, .int y_1), (0, .ref (ga G 31)), (1, .int x1), (2, .int x2), (3, .int x3)]) F.1.1 F.1.2.1 dX6_liftedBy_57 hl (k := 6) rfl ey_10 (by decide) rfl (fun ls hl => ?_)
          refine lv_goto (tgt := 6) F.1.1 F.1.2.1 dX6_liftedBy_60 (by decide) ?_
          exact ih6 y_9 y_10 μ_6 H locs ls hP hS (lv_sub hl [3, 4, 5, 6, 1, 0] rfl) hf
        · refine lv_iload F.1.1 F.1.2.1 dX6_liftedBy_45 (lv_at hl 5 rfl) ?_
          exact retI F hP hS dX6_liftedBy_47 hf
set_option maxHeartbeats 4000000 in
set_option maxRecDepth 100000 in
theorem mX6_liftedBy (l : Launch) (G : GT) (hG : GD G) (x1 : Int32) (x2 : Int32) (x3 : Int32) (μ : Mem) (r : Int32) (μ' : Mem) (hf : fX6_liftedBy x1 x2 x3 μ = some (r, μ')) : Ct l yX6_liftedBy wsX6_liftedBy rmX6_liftedBy G [.ref (ga G 31), .int x1, .int x2, .int x3] μ (some (.int r)) μ' := by
  refine Ct.of (cc := cX6_liftedBy) (maxL := 7) (ret := (some .int)) (own := RX6) hG (by decide) rfl rfl (Nat.le_of_ble_eq_true rfl) ?_
  intro p e s m args below meth c ls H locs F hl hP hS
  have hl : lv_has ls 7 [(0, .ref (ga G 31)), (1, .int x1), (2, .int x2), (3, .int x3)] := hl
  unfold fX6_liftedBy at hf
  refine lv_iconst (v := (0 : Int32)) F.1.1 F.1.2.1 dX6_liftedBy_0 (by decide) ?_
  refine lv_istore (lv' := [(4, .int (0 : Int32)), (0, .ref (ga G 31)), (1, .int x1), (2, .int x2), (3, .int x3)]) F.1.1 F.1.2.1 dX6_liftedBy_1 hl (by decide) rfl (fun ls hl => ?_)
  refine lv_iconst (v := (0 : Int32)) F.1.1 F.1.2.1 dX6_liftedBy_3 (by decide) ?_
  refine lv_istore (lv' := [(5, .int (0 : Int32)), (4, .int (0 : Int32)), (0, .ref (ga G 31)), (1, .int x1), (2, .int x2), (3, .int x3)]) F.1.1 F.1.2.1 dX6_liftedBy_4 hl (by decide) rfl (fun ls hl => ?_)
  exact lX6_liftedBy_L6 l G F x1 x2 x3 _ _ FU (0 : Int32) (0 : Int32) μ H locs ls hP hS (lv_sub hl [2, 3, 4, 5, 1, 0] rfl) hf
abbrev rmX6_heardBy : Room := { frames := 2, cells := 0, slots := 0, locals := 47 }
theorem hdX6_heardBy : yX6_heardBy.cls = RX6 ∧ yX6_heardBy.cls ≠ "java/lang/invoke/MethodHandle" ∧ yX6_heardBy.cls ≠ "java/lang/invoke/VarHandle" ∧ (parseMethodDescriptor yX6_heardBy.desc).map (fun d => d.parameters.length) = some 3 := by decide +kernel
theorem kX6_heardBy_19 : Cond.fieldLink RX6 19 "PaperLayersModel" "kind" "[I" ∈ wsX6_heardBy := List.mem_cons_of_mem _ (List.mem_append_left _ (List.mem_of_getElem? (i := 2) rfl))
theorem kX6_heardBy_31 : Cond.fieldLink RX6 31 "PaperLayersModel" "order" "[I" ∈ wsX6_heardBy := List.mem_cons_of_mem _ (List.mem_append_left _ (List.mem_of_getElem? (i := 1) rfl))
theorem kX6_heardBy_56 : Cond.fieldLink RX6 56 "PaperLayersModel" "layers" "I" ∈ wsX6_heardBy := List.mem_cons_of_mem _ (List.mem_append_left _ (List.mem_of_getElem? (i := 0) rfl))
theorem inX6_heardBy_6 : ∀ w ∈ wsX60, w ∈ wsX6_heardBy := fun _ h => List.mem_cons_of_mem _ (List.mem_append_right _ (h))
set_option maxHeartbeats 4000000 in
set_option maxRecDepth 100000 in
theorem lX6_heardBy_L15 (l : Launch) (G : GT) {p : Program} {e : Env} {s : State} {m : MethodId} {args : Array Value} {below : List Frame} {meth : Method} {c : Code} (F : Fx p s m args meth c cX6_heardBy 8 wsX6_heardBy RX6 (some .int) G) (x4 : Int32) (r : Int32) (μ' : Mem) : ∀ (fuel : Nat), ∀ (x5 : Int32) (x6 : Int32) (μ : Mem) (H : Heap) (locs : List Loc) (ls : Array Slot), Hh G μ H → va_S (gA G) s.heap H locs → lv_has ls 8 [(0, .ref (ga G 31)), (4, .int x4), (5, .int x5), (6, .int x6)] → fX6_heardBy_L15 x4 fuel x5 x6 μ = some (r, μ') → W p l e rmX6_heardBy s m args below meth c H locs 0 0 (MQ below (Qg G (some (.int r)) μ') args s 0 0 (gA G)) (F0 m 15 ls []) := by
  intro fuel
  induction fuel with
  | zero =>
    intro x5 x6 μ H locs ls hP hS hl hf
    exact absurd hf (by intro h; cases h)
  | succ fuel ih15 =>
    intro x5 x6 μ H locs ls hP hS hl hf
    have hf : sX6_heardBy_L15 (fX6_heardBy_L15 x4 fuel) x4 x5 x6 μ = some (r, μ') := hf
    unfold sX6_heardBy_L15 at hf
    refine lv_iload F.1.1 F.1.2.1 dX6_heardBy_15 (lv_at hl 3 rfl) ?_
    refine lv_aload_n F.1.1 F.1.2.1 dX6_heardBy_17 rfl (lv_at hl 0 rfl) ?_
    refine gt_6_5 F hP 31 rfl inX6_heardBy_6 kX6_heardBy_56 dX6_heardBy_18 ?_
    refine jc_ge (tgt := 72) F dX6_heardBy_21 (by decide) hf (fun hf => ?_) (fun hf => ?_)
    · refine lv_iload F.1.1 F.1.2.1 dX6_heardBy_72 (lv_at hl 2 rfl) ?_
      exact retI F hP hS dX6_heardBy_74 hf
    · refine lv_aload_n F.1.1 F.1.2.1 dX6_heardBy_24 rfl (lv_at hl 0 rfl) ?_
      refine gt_6_16 F hP 31 rfl inX6_heardBy_6 kX6_heardBy_31 dX6_heardBy_25 ?_
      refine lv_iload F.1.1 F.1.2.1 dX6_heardBy_28 (lv_at hl 3 rfl) ?_
      refine r_ial F hP 39 rfl rfl dX6_heardBy_30 hf (fun hf => ?_)
      refine top_i hf (fun y_4 hf => ?_)
      refine lv_istore (lv' := [(7, .int y_4), (0, .ref (ga G 31)), (4, .int x4), (5, .int x5), (6, .int x6)]) F.1.1 F.1.2.1 dX6_heardBy_31 hl (by decide) rfl (fun ls hl => ?_)
      refine lv_iload F.1.1 F.1.2.1 dX6_heardBy_33 (lv_at hl 2 rfl) ?_
      refine lv_iload F.1.1 F.1.2.1 dX6_heardBy_35 (lv_at hl 0 rfl) ?_
      obtain ⟨r_7, μ_5, hc_6, hf⟩ := bnd_some hf
      refine rS1 (R := rmX6_heardBy) (As := [.int x4, .int y_4]) (rest := []) F hP hS hl (mX6_isOf l G F.2.2.2.2 x4 y_4 _ _ _ hc_6) gX6_heardBy_X6_isOf hdX6_isOf rfl rfl rfl ⟨Nat.le_of_ble_eq_true rfl, Nat.le_of_ble_eq_true rfl⟩ rfl rfl (Nat.le_of_ble_eq_true rfl) ⟨Nat.le_of_ble_eq_true rfl, Nat.le_of_ble_eq_true rfl⟩ dX6_heardBy_37 (fun H locs hP hS => ?_)
      refine jz_eq (tgt := 66) F dX6_heardBy_40 (by decide) hf (fun hf => ?_) (fun hf => ?_)
      · refine top_n hf (fun y_8 ey_8 hf => ?_)
        refine lv_iinc (v := y_8) (lv' := [(6, .int y_8), (7, .int y_4), (0, .ref (ga G 31)), (4, .int x4), (5, .int x5)]) F.1.1 F.1.2.1 dX6_heardBy_66 hl (k := 4) rfl ey_8 (by decide) rfl (fun ls hl => ?_)
        refine lv_goto (tgt := 15) F.1.1 F.1.2.1 dX6_heardBy_69 (by decide) ?_
        exact ih15 x5 y_8 μ_5 H locs ls hP hS (lv_sub hl [2, 3, 4, 0] rfl) hf
      · refine lv_aload_n F.1.1 F.1.2.1 dX6_heardBy_43 rfl (lv_at hl 1 rfl) ?_
        refine gt_6_8 F hP 31 rfl inX6_heardBy_6 kX6_heardBy_19 dX6_heardBy_44 ?_
        refine lv_iload F.1.1 F.1.2.1 dX6_heardBy_47 (lv_at hl 0 rfl) ?_
        refine r_ial F hP 35 rfl rfl dX6_heardBy_49 hf (fun hf => ?_)
        refine lv_iconst (v := (2 : Int32)) F.1.1 F.1.2.1 dX6_heardBy_50 (by decide) ?_
        refine jc_ne (tgt := 57) F dX6_heardBy_51 (by decide) hf (fun hf => ?_) (fun hf => ?_)
        · refine lv_iload F.1.1 F.1.2.1 dX6_heardBy_57 (lv_at hl 3 rfl) ?_
          refine lv_iconst (v := (1 : Int32)) F.1.1 F.1.2.1 dX6_heardBy_59 (by decide) ?_
          refine lv_iload F.1.1 F.1.2.1 dX6_heardBy_60 (lv_at hl 0 rfl) ?_
          refine lv_ishl F.1.1 F.1.2.1 dX6_heardBy_62 ?_
          refine lv_ior F.1.1 F.1.2.1 dX6_heardBy_63 ?_
          refine top_i hf (fun y_9 hf => ?_)
          refine lv_istore (lv' := [(5, .int y_9), (7, .int y_4), (0, .ref (ga G 31)), (4, .int x4), (6, .int x6)]) F.1.1 F.1.2.1 dX6_heardBy_64 hl (by decide) rfl (fun ls hl => ?_)
          refine top_n hf (fun y_10 ey_10 hf => ?_)
          refine lv_iinc (v := y_10) (lv' := [(6, .int y_10), (5, .int y_9), (7, .int y_4), (0, .ref (ga G 31)), (4, .int x4)]) F.1.1 F.1.2.1 dX6_heardBy_66 hl (k := 4) rfl ey_10 (by decide) rfl (fun ls hl => ?_)
          refine lv_goto (tgt := 15) F.1.1 F.1.2.1 dX6_heardBy_69 (by decide) ?_
          exact ih15 y_9 y_10 μ_5 H locs ls hP hS (lv_sub hl [3, 4, 1, 0] rfl) hf
        · refine lv_iload F.1.1 F.1.2.1 dX6_heardBy_54 (lv_at hl 3 rfl) ?_
          exact retI F hP hS dX6_heardBy_56 hf
set_option maxHeartbeats 4000000 in
set_option maxRecDepth 100000 in
theorem mX6_heardBy (l : Launch) (G : GT) (hG : GD G) (x1 : Int32) (x2 : Int32) (x3 : Int32) (μ : Mem) (r : Int32) (μ' : Mem) (hf : fX6_heardBy x1 x2 x3 μ = some (r, μ')) : Ct l yX6_heardBy wsX6_heardBy rmX6_heardBy G [.ref (ga G 31), .int x1, .int x2, .int x3] μ (some (.int r)) μ' := by
  refine Ct.of (cc := cX6_heardBy) (maxL := 8) (ret := (some .int)) (own := RX6) hG (by decide) rfl rfl (Nat.le_of_ble_eq_true rfl) ?_
  intro p e s m args below meth c ls H locs F hl hP hS
  have hl : lv_has ls 8 [(0, .ref (ga G 31)), (1, .int x1), (2, .int x2), (3, .int x3)] := hl
  unfold fX6_heardBy at hf
  refine lv_aload_n F.1.1 F.1.2.1 dX6_heardBy_0 rfl (lv_at hl 0 rfl) ?_
  refine lv_iload_n F.1.1 F.1.2.1 dX6_heardBy_1 rfl (lv_at hl 1 rfl) ?_
  refine lv_iload_n F.1.1 F.1.2.1 dX6_heardBy_2 rfl (lv_at hl 2 rfl) ?_
  refine lv_iload_n F.1.1 F.1.2.1 dX6_heardBy_3 rfl (lv_at hl 3 rfl) ?_
  obtain ⟨r_3, μ_1, hc_2, hf⟩ := bnd_some hf
  refine rV1 (R := rmX6_heardBy) (As := [.int x1, .int x2, .int x3]) (rest := []) F hP hS hl (mX6_liftedBy l G F.2.2.2.2 x1 x2 x3 _ _ _ hc_2) gX6_heardBy_X6_liftedBy rfl hdX6_liftedBy rfl rfl rfl ⟨Nat.le_of_ble_eq_true rfl, Nat.le_of_ble_eq_true rfl⟩ (by decide) rfl rfl rfl (Nat.le_of_ble_eq_true rfl) ⟨Nat.le_of_ble_eq_true rfl, Nat.le_of_ble_eq_true rfl⟩ dX6_heardBy_4 (fun H locs hP hS => ?_)
  refine lv_istore (lv' := [(4, .int r_3), (0, .ref (ga G 31)), (1, .int x1), (2, .int x2), (3, .int x3)]) F.1.1 F.1.2.1 dX6_heardBy_7 hl (by decide) rfl (fun ls hl => ?_)
  refine lv_iconst (v := (0 : Int32)) F.1.1 F.1.2.1 dX6_heardBy_9 (by decide) ?_
  refine lv_istore (lv' := [(5, .int (0 : Int32)), (4, .int r_3), (0, .ref (ga G 31)), (1, .int x1), (2, .int x2), (3, .int x3)]) F.1.1 F.1.2.1 dX6_heardBy_10 hl (by decide) rfl (fun ls hl => ?_)
  refine lv_iconst (v := (0 : Int32)) F.1.1 F.1.2.1 dX6_heardBy_12 (by decide) ?_
  refine lv_istore (lv' := [(6, .int (0 : Int32)), (5, .int (0 : Int32)), (4, .int r_3), (0, .ref (ga G 31)), (1, .int x1), (2, .int x2), (3, .int x3)]) F.1.1 F.1.2.1 dX6_heardBy_13 hl (by decide) rfl (fun ls hl => ?_)
  exact lX6_heardBy_L15 l G F r_3 _ _ FU (0 : Int32) (0 : Int32) μ_1 H locs ls hP hS (lv_sub hl [3, 2, 1, 0] rfl) hf
abbrev rmX6_givers : Room := { frames := 1, cells := 0, slots := 0, locals := 21 }
theorem hdX6_givers : yX6_givers.cls = RX6 ∧ yX6_givers.cls ≠ "java/lang/invoke/MethodHandle" ∧ yX6_givers.cls ≠ "java/lang/invoke/VarHandle" ∧ (parseMethodDescriptor yX6_givers.desc).map (fun d => d.parameters.length) = some 2 := by decide +kernel
theorem kX6_givers_25 : Cond.fieldLink RX6 25 "PaperLayersModel" "advice" "[I" ∈ wsX6_givers := List.mem_cons_of_mem _ (List.mem_append_left _ (List.mem_of_getElem? (i := 1) rfl))
theorem kX6_givers_56 : Cond.fieldLink RX6 56 "PaperLayersModel" "layers" "I" ∈ wsX6_givers := List.mem_cons_of_mem _ (List.mem_append_left _ (List.mem_of_getElem? (i := 0) rfl))
theorem inX6_givers_6 : ∀ w ∈ wsX60, w ∈ wsX6_givers := fun _ h => List.mem_cons_of_mem _ (List.mem_append_right _ (h))
set_option maxHeartbeats 4000000 in
set_option maxRecDepth 100000 in
theorem lX6_givers_L5 (l : Launch) (G : GT) {p : Program} {e : Env} {s : State} {m : MethodId} {args : Array Value} {below : List Frame} {meth : Method} {c : Code} (F : Fx p s m args meth c cX6_givers 5 wsX6_givers RX6 (some .int) G) (x1 : Int32) (x2 : Int32) (r : Int32) (μ' : Mem) : ∀ (fuel : Nat), ∀ (x3 : Int32) (x4 : Int32) (μ : Mem) (H : Heap) (locs : List Loc) (ls : Array Slot), Hh G μ H → va_S (gA G) s.heap H locs → lv_has ls 5 [(0, .ref (ga G 31)), (1, .int x1), (2, .int x2), (3, .int x3), (4, .int x4)] → fX6_givers_L5 x1 x2 fuel x3 x4 μ = some (r, μ') → W p l e rmX6_givers s m args below meth c H locs 0 0 (MQ below (Qg G (some (.int r)) μ') args s 0 0 (gA G)) (F0 m 5 ls []) := by
  intro fuel
  induction fuel with
  | zero =>
    intro x3 x4 μ H locs ls hP hS hl hf
    exact absurd hf (by intro h; cases h)
  | succ fuel ih5 =>
    intro x3 x4 μ H locs ls hP hS hl hf
    have hf : sX6_givers_L5 (fX6_givers_L5 x1 x2 fuel) x1 x2 x3 x4 μ = some (r, μ') := hf
    unfold sX6_givers_L5 at hf
    refine lv_iload F.1.1 F.1.2.1 dX6_givers_5 (lv_at hl 4 rfl) ?_
    refine lv_aload_n F.1.1 F.1.2.1 dX6_givers_7 rfl (lv_at hl 0 rfl) ?_
    refine gt_6_5 F hP 31 rfl inX6_givers_6 kX6_givers_56 dX6_givers_8 ?_
    refine jc_ge (tgt := 48) F dX6_givers_11 (by decide) hf (fun hf => ?_) (fun hf => ?_)
    · refine lv_iload_n F.1.1 F.1.2.1 dX6_givers_48 rfl (lv_at hl 3 rfl) ?_
      exact retI F hP hS dX6_givers_49 hf
    · refine lv_iload_n F.1.1 F.1.2.1 dX6_givers_14 rfl (lv_at hl 3 rfl) ?_
      refine lv_iload_n F.1.1 F.1.2.1 dX6_givers_15 rfl (lv_at hl 1 rfl) ?_
      refine lv_iload F.1.1 F.1.2.1 dX6_givers_16 (lv_at hl 4 rfl) ?_
      obtain ⟨r_3, μ_1, hc_2, hf⟩ := bnd_some hf
      refine rS1 (R := rmX6_givers) (As := [.int x1, .int x4]) (rest := [.int x3]) F hP hS hl (mX6_isOf l G F.2.2.2.2 x1 x4 _ _ _ hc_2) gX6_givers_X6_isOf hdX6_isOf rfl rfl rfl ⟨Nat.le_of_ble_eq_true rfl, Nat.le_of_ble_eq_true rfl⟩ rfl rfl (Nat.le_of_ble_eq_true rfl) ⟨Nat.le_of_ble_eq_true rfl, Nat.le_of_ble_eq_true rfl⟩ dX6_givers_18 (fun H locs hP hS => ?_)
      refine jz_eq (tgt := 39) F dX6_givers_21 (by decide) hf (fun hf => ?_) (fun hf => ?_)
      · refine lv_iconst (v := (0 : Int32)) F.1.1 F.1.2.1 dX6_givers_39 (by decide) ?_
        refine lv_iadd F.1.1 F.1.2.1 dX6_givers_40 ?_
        refine top_i hf (fun y_4 hf => ?_)
        refine lv_istore_n (lv' := [(3, .int y_4), (0, .ref (ga G 31)), (1, .int x1), (2, .int x2), (4, .int x4)]) F.1.1 F.1.2.1 dX6_givers_41 rfl hl (by decide) rfl (fun ls hl => ?_)
        refine top_n hf (fun y_5 ey_5 hf => ?_)
        refine lv_iinc (v := y_5) (lv' := [(4, .int y_5), (3, .int y_4), (0, .ref (ga G 31)), (1, .int x1), (2, .int x2)]) F.1.1 F.1.2.1 dX6_givers_42 hl (k := 4) rfl ey_5 (by decide) rfl (fun ls hl => ?_)
        refine lv_goto (tgt := 5) F.1.1 F.1.2.1 dX6_givers_45 (by decide) ?_
        exact ih5 y_4 y_5 μ_1 H locs ls hP hS (lv_sub hl [2, 3, 4, 1, 0] rfl) hf
      · refine lv_aload_n F.1.1 F.1.2.1 dX6_givers_24 rfl (lv_at hl 0 rfl) ?_
        refine gt_6_10 F hP 31 rfl inX6_givers_6 kX6_givers_25 dX6_givers_25 ?_
        refine lv_iload F.1.1 F.1.2.1 dX6_givers_28 (lv_at hl 4 rfl) ?_
        refine r_ial F hP 37 rfl rfl dX6_givers_30 hf (fun hf => ?_)
        refine lv_iload_n F.1.1 F.1.2.1 dX6_givers_31 rfl (lv_at hl 2 rfl) ?_
        refine jc_ne (tgt := 39) F dX6_givers_32 (by decide) hf (fun hf => ?_) (fun hf => ?_)
        · refine lv_iconst (v := (0 : Int32)) F.1.1 F.1.2.1 dX6_givers_39 (by decide) ?_
          refine lv_iadd F.1.1 F.1.2.1 dX6_givers_40 ?_
          refine top_i hf (fun y_6 hf => ?_)
          refine lv_istore_n (lv' := [(3, .int y_6), (0, .ref (ga G 31)), (1, .int x1), (2, .int x2), (4, .int x4)]) F.1.1 F.1.2.1 dX6_givers_41 rfl hl (by decide) rfl (fun ls hl => ?_)
          refine top_n hf (fun y_7 ey_7 hf => ?_)
          refine lv_iinc (v := y_7) (lv' := [(4, .int y_7), (3, .int y_6), (0, .ref (ga G 31)), (1, .int x1), (2, .int x2)]) F.1.1 F.1.2.1 dX6_givers_42 hl (k := 4) rfl ey_7 (by decide) rfl (fun ls hl => ?_)
          refine lv_goto (tgt := 5) F.1.1 F.1.2.1 dX6_givers_45 (by decide) ?_
          exact ih5 y_6 y_7 μ_1 H locs ls hP hS (lv_sub hl [2, 3, 4, 1, 0] rfl) hf
        · refine lv_iconst (v := (1 : Int32)) F.1.1 F.1.2.1 dX6_givers_35 (by decide) ?_
          refine lv_goto (tgt := 40) F.1.1 F.1.2.1 dX6_givers_36 (by decide) ?_
          refine lv_iadd F.1.1 F.1.2.1 dX6_givers_40 ?_
          refine top_i hf (fun y_8 hf => ?_)
          refine lv_istore_n (lv' := [(3, .int y_8), (0, .ref (ga G 31)), (1, .int x1), (2, .int x2), (4, .int x4)]) F.1.1 F.1.2.1 dX6_givers_41 rfl hl (by decide) rfl (fun ls hl => ?_)
          refine top_n hf (fun y_9 ey_9 hf => ?_)
          refine lv_iinc (v := y_9) (lv' := [(4, .int y_9), (3, .int y_8), (0, .ref (ga G 31)), (1, .int x1), (2, .int x2)]) F.1.1 F.1.2.1 dX6_givers_42 hl (k := 4) rfl ey_9 (by decide) rfl (fun ls hl => ?_)
          refine lv_goto (tgt := 5) F.1.1 F.1.2.1 dX6_givers_45 (by decide) ?_
          exact ih5 y_8 y_9 μ_1 H locs ls hP hS (lv_sub hl [2, 3, 4, 1, 0] rfl) hf
set_option maxHeartbeats 4000000 in
set_option maxRecDepth 100000 in
theorem mX6_givers (l : Launch) (G : GT) (hG : GD G) (x1 : Int32) (x2 : Int32) (μ : Mem) (r : Int32) (μ' : Mem) (hf : fX6_givers x1 x2 μ = some (r, μ')) : Ct l yX6_givers wsX6_givers rmX6_givers G [.ref (ga G 31), .int x1, .int x2] μ (some (.int r)) μ' := by
  refine Ct.of (cc := cX6_givers) (maxL := 5) (ret := (some .int)) (own := RX6) hG (by decide) rfl rfl (Nat.le_of_ble_eq_true rfl) ?_
  intro p e s m args below meth c ls H locs F hl hP hS
  have hl : lv_has ls 5 [(0, .ref (ga G 31)), (1, .int x1), (2, .int x2)] := hl
  unfold fX6_givers at hf
  refine lv_iconst (v := (0 : Int32)) F.1.1 F.1.2.1 dX6_givers_0 (by decide) ?_
  refine lv_istore_n (lv' := [(3, .int (0 : Int32)), (0, .ref (ga G 31)), (1, .int x1), (2, .int x2)]) F.1.1 F.1.2.1 dX6_givers_1 rfl hl (by decide) rfl (fun ls hl => ?_)
  refine lv_iconst (v := (0 : Int32)) F.1.1 F.1.2.1 dX6_givers_2 (by decide) ?_
  refine lv_istore (lv' := [(4, .int (0 : Int32)), (3, .int (0 : Int32)), (0, .ref (ga G 31)), (1, .int x1), (2, .int x2)]) F.1.1 F.1.2.1 dX6_givers_3 hl (by decide) rfl (fun ls hl => ?_)
  exact lX6_givers_L5 l G F x1 x2 _ _ FU (0 : Int32) (0 : Int32) μ H locs ls hP hS (lv_sub hl [2, 3, 4, 1, 0] rfl) hf
abbrev rmX6_counselBy : Room := { frames := 3, cells := 0, slots := 0, locals := 74 }
theorem hdX6_counselBy : yX6_counselBy.cls = RX6 ∧ yX6_counselBy.cls ≠ "java/lang/invoke/MethodHandle" ∧ yX6_counselBy.cls ≠ "java/lang/invoke/VarHandle" ∧ (parseMethodDescriptor yX6_counselBy.desc).map (fun d => d.parameters.length) = some 3 := by decide +kernel
theorem kX6_counselBy_25 : Cond.fieldLink RX6 25 "PaperLayersModel" "advice" "[I" ∈ wsX6_counselBy := List.mem_cons_of_mem _ (List.mem_append_left _ (List.mem_append_left _ (List.mem_of_getElem? (i := 2) rfl)))
theorem kX6_counselBy_31 : Cond.fieldLink RX6 31 "PaperLayersModel" "order" "[I" ∈ wsX6_counselBy := List.mem_cons_of_mem _ (List.mem_append_left _ (List.mem_append_left _ (List.mem_of_getElem? (i := 1) rfl)))
theorem kX6_counselBy_56 : Cond.fieldLink RX6 56 "PaperLayersModel" "layers" "I" ∈ wsX6_counselBy := List.mem_cons_of_mem _ (List.mem_append_left _ (List.mem_append_left _ (List.mem_of_getElem? (i := 0) rfl)))
theorem inX6_counselBy_6 : ∀ w ∈ wsX60, w ∈ wsX6_counselBy := fun _ h => List.mem_cons_of_mem _ (List.mem_append_right _ (h))
set_option maxHeartbeats 4000000 in
set_option maxRecDepth 100000 in
theorem lX6_counselBy_L19 (l : Launch) (G : GT) {p : Program} {e : Env} {s : State} {m : MethodId} {args : Array Value} {below : List Frame} {meth : Method} {c : Code} (F : Fx p s m args meth c cX6_counselBy 9 wsX6_counselBy RX6 (some .int) G) (x4 : Int32) (r : Int32) (μ' : Mem) : ∀ (fuel : Nat), ∀ (x5 : Int32) (x6 : Int32) (x7 : Int32) (μ : Mem) (H : Heap) (locs : List Loc) (ls : Array Slot), Hh G μ H → va_S (gA G) s.heap H locs → lv_has ls 9 [(0, .ref (ga G 31)), (4, .int x4), (5, .int x5), (6, .int x6), (7, .int x7)] → fX6_counselBy_L19 x4 fuel x5 x6 x7 μ = some (r, μ') → W p l e rmX6_counselBy s m args below meth c H locs 0 0 (MQ below (Qg G (some (.int r)) μ') args s 0 0 (gA G)) (F0 m 19 ls []) := by
  intro fuel
  induction fuel with
  | zero =>
    intro x5 x6 x7 μ H locs ls hP hS hl hf
    exact absurd hf (by intro h; cases h)
  | succ fuel ih19 =>
    intro x5 x6 x7 μ H locs ls hP hS hl hf
    have hf : sX6_counselBy_L19 (fX6_counselBy_L19 x4 fuel) x4 x5 x6 x7 μ = some (r, μ') := hf
    unfold sX6_counselBy_L19 at hf
    refine lv_iload F.1.1 F.1.2.1 dX6_counselBy_19 (lv_at hl 4 rfl) ?_
    refine lv_aload_n F.1.1 F.1.2.1 dX6_counselBy_21 rfl (lv_at hl 0 rfl) ?_
    refine gt_6_5 F hP 31 rfl inX6_counselBy_6 kX6_counselBy_56 dX6_counselBy_22 ?_
    refine jc_ge (tgt := 95) F dX6_counselBy_25 (by decide) hf (fun hf => ?_) (fun hf => ?_)
    · refine lv_iload F.1.1 F.1.2.1 dX6_counselBy_95 (lv_at hl 2 rfl) ?_
      exact retI F hP hS dX6_counselBy_97 hf
    · refine lv_aload_n F.1.1 F.1.2.1 dX6_counselBy_28 rfl (lv_at hl 0 rfl) ?_
      refine gt_6_16 F hP 31 rfl inX6_counselBy_6 kX6_counselBy_31 dX6_counselBy_29 ?_
      refine lv_iload F.1.1 F.1.2.1 dX6_counselBy_32 (lv_at hl 4 rfl) ?_
      refine r_ial F hP 39 rfl rfl dX6_counselBy_34 hf (fun hf => ?_)
      refine top_i hf (fun y_4 hf => ?_)
      refine lv_istore (lv' := [(8, .int y_4), (0, .ref (ga G 31)), (4, .int x4), (5, .int x5), (6, .int x6), (7, .int x7)]) F.1.1 F.1.2.1 dX6_counselBy_35 hl (by decide) rfl (fun ls hl => ?_)
      refine lv_iload F.1.1 F.1.2.1 dX6_counselBy_37 (lv_at hl 2 rfl) ?_
      refine lv_iload F.1.1 F.1.2.1 dX6_counselBy_39 (lv_at hl 0 rfl) ?_
      obtain ⟨r_7, μ_5, hc_6, hf⟩ := bnd_some hf
      refine rS1 (R := rmX6_counselBy) (As := [.int x4, .int y_4]) (rest := []) F hP hS hl (mX6_isOf l G F.2.2.2.2 x4 y_4 _ _ _ hc_6) gX6_counselBy_X6_isOf hdX6_isOf rfl rfl rfl ⟨Nat.le_of_ble_eq_true rfl, Nat.le_of_ble_eq_true rfl⟩ rfl rfl (Nat.le_of_ble_eq_true rfl) ⟨Nat.le_of_ble_eq_true rfl, Nat.le_of_ble_eq_true rfl⟩ dX6_counselBy_41 (fun H locs hP hS => ?_)
      refine jz_eq (tgt := 89) F dX6_counselBy_44 (by decide) hf (fun hf => ?_) (fun hf => ?_)
      · refine top_n hf (fun y_8 ey_8 hf => ?_)
        refine lv_iinc (v := y_8) (lv' := [(7, .int y_8), (8, .int y_4), (0, .ref (ga G 31)), (4, .int x4), (5, .int x5), (6, .int x6)]) F.1.1 F.1.2.1 dX6_counselBy_89 hl (k := 5) rfl ey_8 (by decide) rfl (fun ls hl => ?_)
        refine lv_goto (tgt := 19) F.1.1 F.1.2.1 dX6_counselBy_92 (by decide) ?_
        exact ih19 x5 x6 y_8 μ_5 H locs ls hP hS (lv_sub hl [2, 3, 4, 5, 0] rfl) hf
      · refine lv_aload_n F.1.1 F.1.2.1 dX6_counselBy_47 rfl (lv_at hl 1 rfl) ?_
        refine lv_iload F.1.1 F.1.2.1 dX6_counselBy_48 (lv_at hl 2 rfl) ?_
        refine lv_aload_n F.1.1 F.1.2.1 dX6_counselBy_50 rfl (lv_at hl 1 rfl) ?_
        refine gt_6_10 F hP 31 rfl inX6_counselBy_6 kX6_counselBy_25 dX6_counselBy_51 ?_
        refine lv_iload F.1.1 F.1.2.1 dX6_counselBy_54 (lv_at hl 0 rfl) ?_
        refine r_ial F hP 37 rfl rfl dX6_counselBy_56 hf (fun hf => ?_)
        obtain ⟨r_11, μ_9, hc_10, hf⟩ := bnd_some hf
        refine rV1 (R := rmX6_counselBy) (As := [.int x4, .int (μ_5 37 (y_4).toNatClampNeg)]) (rest := []) F hP hS hl (mX6_givers l G F.2.2.2.2 x4 (μ_5 37 (y_4).toNatClampNeg) _ _ _ hc_10) gX6_counselBy_X6_givers rfl hdX6_givers rfl rfl rfl ⟨Nat.le_of_ble_eq_true rfl, Nat.le_of_ble_eq_true rfl⟩ (by decide) rfl rfl rfl (Nat.le_of_ble_eq_true rfl) ⟨Nat.le_of_ble_eq_true rfl, Nat.le_of_ble_eq_true rfl⟩ dX6_counselBy_57 (fun H locs hP hS => ?_)
        refine lv_iload F.1.1 F.1.2.1 dX6_counselBy_60 (lv_at hl 4 rfl) ?_
        refine jc_le (tgt := 89) F dX6_counselBy_62 (by decide) hf (fun hf => ?_) (fun hf => ?_)
        · refine top_n hf (fun y_12 ey_12 hf => ?_)
          refine lv_iinc (v := y_12) (lv' := [(7, .int y_12), (8, .int y_4), (0, .ref (ga G 31)), (4, .int x4), (5, .int x5), (6, .int x6)]) F.1.1 F.1.2.1 dX6_counselBy_89 hl (k := 5) rfl ey_12 (by decide) rfl (fun ls hl => ?_)
          refine lv_goto (tgt := 19) F.1.1 F.1.2.1 dX6_counselBy_92 (by decide) ?_
          exact ih19 x5 x6 y_12 μ_9 H locs ls hP hS (lv_sub hl [2, 3, 4, 5, 0] rfl) hf
        · refine lv_aload_n F.1.1 F.1.2.1 dX6_counselBy_65 rfl (lv_at hl 1 rfl) ?_
          refine lv_iload F.1.1 F.1.2.1 dX6_counselBy_66 (lv_at hl 2 rfl) ?_
          refine lv_aload_n F.1.1 F.1.2.1 dX6_counselBy_68 rfl (lv_at hl 1 rfl) ?_
          refine gt_6_10 F hP 31 rfl inX6_counselBy_6 kX6_counselBy_25 dX6_counselBy_69 ?_
          refine lv_iload F.1.1 F.1.2.1 dX6_counselBy_72 (lv_at hl 0 rfl) ?_
          refine r_ial F hP 37 rfl rfl dX6_counselBy_74 hf (fun hf => ?_)
          obtain ⟨r_15, μ_13, hc_14, hf⟩ := bnd_some hf
          refine rV1 (R := rmX6_counselBy) (As := [.int x4, .int (μ_9 37 (y_4).toNatClampNeg)]) (rest := []) F hP hS hl (mX6_givers l G F.2.2.2.2 x4 (μ_9 37 (y_4).toNatClampNeg) _ _ _ hc_14) gX6_counselBy_X6_givers rfl hdX6_givers rfl rfl rfl ⟨Nat.le_of_ble_eq_true rfl, Nat.le_of_ble_eq_true rfl⟩ (by decide) rfl rfl rfl (Nat.le_of_ble_eq_true rfl) ⟨Nat.le_of_ble_eq_true rfl, Nat.le_of_ble_eq_true rfl⟩ dX6_counselBy_75 (fun H locs hP hS => ?_)
          refine lv_istore (lv' := [(6, .int r_15), (8, .int y_4), (0, .ref (ga G 31)), (4, .int x4), (5, .int x5), (7, .int x7)]) F.1.1 F.1.2.1 dX6_counselBy_78 hl (by decide) rfl (fun ls hl => ?_)
          refine lv_aload_n F.1.1 F.1.2.1 dX6_counselBy_80 rfl (lv_at hl 2 rfl) ?_
          refine gt_6_10 F hP 31 rfl inX6_counselBy_6 kX6_counselBy_25 dX6_counselBy_81 ?_
          refine lv_iload F.1.1 F.1.2.1 dX6_counselBy_84 (lv_at hl 1 rfl) ?_
          refine r_ial F hP 37 rfl rfl dX6_counselBy_86 hf (fun hf => ?_)
          refine top_i hf (fun y_16 hf => ?_)
          refine lv_istore (lv' := [(5, .int y_16), (6, .int r_15), (8, .int y_4), (0, .ref (ga G 31)), (4, .int x4), (7, .int x7)]) F.1.1 F.1.2.1 dX6_counselBy_87 hl (by decide) rfl (fun ls hl => ?_)
          refine top_n hf (fun y_17 ey_17 hf => ?_)
          refine lv_iinc (v := y_17) (lv' := [(7, .int y_17), (5, .int y_16), (6, .int r_15), (8, .int y_4), (0, .ref (ga G 31)), (4, .int x4)]) F.1.1 F.1.2.1 dX6_counselBy_89 hl (k := 5) rfl ey_17 (by decide) rfl (fun ls hl => ?_)
          refine lv_goto (tgt := 19) F.1.1 F.1.2.1 dX6_counselBy_92 (by decide) ?_
          exact ih19 y_16 r_15 y_17 μ_13 H locs ls hP hS (lv_sub hl [4, 5, 1, 2, 0] rfl) hf
set_option maxHeartbeats 4000000 in
set_option maxRecDepth 100000 in
theorem mX6_counselBy (l : Launch) (G : GT) (hG : GD G) (x1 : Int32) (x2 : Int32) (x3 : Int32) (μ : Mem) (r : Int32) (μ' : Mem) (hf : fX6_counselBy x1 x2 x3 μ = some (r, μ')) : Ct l yX6_counselBy wsX6_counselBy rmX6_counselBy G [.ref (ga G 31), .int x1, .int x2, .int x3] μ (some (.int r)) μ' := by
  refine Ct.of (cc := cX6_counselBy) (maxL := 9) (ret := (some .int)) (own := RX6) hG (by decide) rfl rfl (Nat.le_of_ble_eq_true rfl) ?_
  intro p e s m args below meth c ls H locs F hl hP hS
  have hl : lv_has ls 9 [(0, .ref (ga G 31)), (1, .int x1), (2, .int x2), (3, .int x3)] := hl
  unfold fX6_counselBy at hf
  refine lv_aload_n F.1.1 F.1.2.1 dX6_counselBy_0 rfl (lv_at hl 0 rfl) ?_
  refine lv_iload_n F.1.1 F.1.2.1 dX6_counselBy_1 rfl (lv_at hl 1 rfl) ?_
  refine lv_iload_n F.1.1 F.1.2.1 dX6_counselBy_2 rfl (lv_at hl 2 rfl) ?_
  refine lv_iload_n F.1.1 F.1.2.1 dX6_counselBy_3 rfl (lv_at hl 3 rfl) ?_
  obtain ⟨r_3, μ_1, hc_2, hf⟩ := bnd_some hf
  refine rV1 (R := rmX6_counselBy) (As := [.int x1, .int x2, .int x3]) (rest := []) F hP hS hl (mX6_heardBy l G F.2.2.2.2 x1 x2 x3 _ _ _ hc_2) gX6_counselBy_X6_heardBy rfl hdX6_heardBy rfl rfl rfl ⟨Nat.le_of_ble_eq_true rfl, Nat.le_of_ble_eq_true rfl⟩ (by decide) rfl rfl rfl (Nat.le_of_ble_eq_true rfl) ⟨Nat.le_of_ble_eq_true rfl, Nat.le_of_ble_eq_true rfl⟩ dX6_counselBy_4 (fun H locs hP hS => ?_)
  refine lv_istore (lv' := [(4, .int r_3), (0, .ref (ga G 31)), (1, .int x1), (2, .int x2), (3, .int x3)]) F.1.1 F.1.2.1 dX6_counselBy_7 hl (by decide) rfl (fun ls hl => ?_)
  refine lv_bipush (v := (-9 : Int32)) F.1.1 F.1.2.1 dX6_counselBy_9 (by decide) ?_
  refine lv_istore (lv' := [(5, .int (-9 : Int32)), (4, .int r_3), (0, .ref (ga G 31)), (1, .int x1), (2, .int x2), (3, .int x3)]) F.1.1 F.1.2.1 dX6_counselBy_11 hl (by decide) rfl (fun ls hl => ?_)
  refine lv_iconst (v := (0 : Int32)) F.1.1 F.1.2.1 dX6_counselBy_13 (by decide) ?_
  refine lv_istore (lv' := [(6, .int (0 : Int32)), (5, .int (-9 : Int32)), (4, .int r_3), (0, .ref (ga G 31)), (1, .int x1), (2, .int x2), (3, .int x3)]) F.1.1 F.1.2.1 dX6_counselBy_14 hl (by decide) rfl (fun ls hl => ?_)
  refine lv_iconst (v := (0 : Int32)) F.1.1 F.1.2.1 dX6_counselBy_16 (by decide) ?_
  refine lv_istore (lv' := [(7, .int (0 : Int32)), (6, .int (0 : Int32)), (5, .int (-9 : Int32)), (4, .int r_3), (0, .ref (ga G 31)), (1, .int x1), (2, .int x2), (3, .int x3)]) F.1.1 F.1.2.1 dX6_counselBy_17 hl (by decide) rfl (fun ls hl => ?_)
  exact lX6_counselBy_L19 l G F r_3 _ _ FU (-9 : Int32) (0 : Int32) (0 : Int32) μ_1 H locs ls hP hS (lv_sub hl [4, 3, 2, 1, 0] rfl) hf
abbrev rmX6_heardNow : Room := { frames := 3, cells := 0, slots := 0, locals := 74 }
theorem hdX6_heardNow : yX6_heardNow.cls = RX6 ∧ yX6_heardNow.cls ≠ "java/lang/invoke/MethodHandle" ∧ yX6_heardNow.cls ≠ "java/lang/invoke/VarHandle" ∧ (parseMethodDescriptor yX6_heardNow.desc).map (fun d => d.parameters.length) = some 0 := by decide +kernel
theorem kX6_heardNow_86 : Cond.fieldLink RX6 86 "PaperLayersModel" "warmNow" "I" ∈ wsX6_heardNow := List.mem_cons_of_mem _ (List.mem_append_left _ (List.mem_append_left _ (List.mem_of_getElem? (i := 0) rfl)))
theorem kX6_heardNow_92 : Cond.fieldLink RX6 92 "PaperLayersModel" "dampNow" "I" ∈ wsX6_heardNow := List.mem_cons_of_mem _ (List.mem_append_left _ (List.mem_append_left _ (List.mem_of_getElem? (i := 1) rfl)))
theorem inX6_heardNow_6 : ∀ w ∈ wsX60, w ∈ wsX6_heardNow := fun _ h => List.mem_cons_of_mem _ (List.mem_append_right _ (h))
set_option maxHeartbeats 4000000 in
set_option maxRecDepth 100000 in
theorem mX6_heardNow (l : Launch) (G : GT) (hG : GD G) (μ : Mem) (r : Int32) (μ' : Mem) (hf : fX6_heardNow μ = some (r, μ')) : Ct l yX6_heardNow wsX6_heardNow rmX6_heardNow G [.ref (ga G 31)] μ (some (.int r)) μ' := by
  refine Ct.of (cc := cX6_heardNow) (maxL := 1) (ret := (some .int)) (own := RX6) hG (by decide) rfl rfl (Nat.le_of_ble_eq_true rfl) ?_
  intro p e s m args below meth c ls H locs F hl hP hS
  have hl : lv_has ls 1 [(0, .ref (ga G 31))] := hl
  unfold fX6_heardNow at hf
  refine lv_aload_n F.1.1 F.1.2.1 dX6_heardNow_0 rfl (lv_at hl 0 rfl) ?_
  obtain ⟨u_3, μ_1, hc_2, hf⟩ := bnd_some hf
  refine rVv (R := rmX6_heardNow) (As := []) (rest := []) F hP hS hl (mX6_orderAsIs l G F.2.2.2.2  _ _ _ hc_2) gX6_heardNow_X6_orderAsIs rfl hdX6_orderAsIs rfl rfl rfl ⟨Nat.le_of_ble_eq_true rfl, Nat.le_of_ble_eq_true rfl⟩ (by decide) rfl rfl rfl (Nat.le_of_ble_eq_true rfl) ⟨Nat.le_of_ble_eq_true rfl, Nat.le_of_ble_eq_true rfl⟩ dX6_heardNow_1 (fun H locs hP hS => ?_)
  refine lv_aload_n F.1.1 F.1.2.1 dX6_heardNow_4 rfl (lv_at hl 0 rfl) ?_
  refine lv_aload_n F.1.1 F.1.2.1 dX6_heardNow_5 rfl (lv_at hl 0 rfl) ?_
  refine gt_6_6 F hP 31 rfl inX6_heardNow_6 kX6_heardNow_86 dX6_heardNow_6 ?_
  refine lv_aload_n F.1.1 F.1.2.1 dX6_heardNow_9 rfl (lv_at hl 0 rfl) ?_
  refine gt_6_7 F hP 31 rfl inX6_heardNow_6 kX6_heardNow_92 dX6_heardNow_10 ?_
  refine lv_iconst (v := (0 : Int32)) F.1.1 F.1.2.1 dX6_heardNow_13 (by decide) ?_
  obtain ⟨r_6, μ_4, hc_5, hf⟩ := bnd_some hf
  refine rV1 (R := rmX6_heardNow) (As := [.int (μ_1 31 6), .int (μ_1 31 7), .int (0 : Int32)]) (rest := []) F hP hS hl (mX6_heardBy l G F.2.2.2.2 (μ_1 31 6) (μ_1 31 7) (0 : Int32) _ _ _ hc_5) gX6_heardNow_X6_heardBy rfl hdX6_heardBy rfl rfl rfl ⟨Nat.le_of_ble_eq_true rfl, Nat.le_of_ble_eq_true rfl⟩ (by decide) rfl rfl rfl (Nat.le_of_ble_eq_true rfl) ⟨Nat.le_of_ble_eq_true rfl, Nat.le_of_ble_eq_true rfl⟩ dX6_heardNow_14 (fun H locs hP hS => ?_)
  exact retI F hP hS dX6_heardNow_17 hf
abbrev rmX6_liftedNow : Room := { frames := 2, cells := 0, slots := 0, locals := 47 }
theorem hdX6_liftedNow : yX6_liftedNow.cls = RX6 ∧ yX6_liftedNow.cls ≠ "java/lang/invoke/MethodHandle" ∧ yX6_liftedNow.cls ≠ "java/lang/invoke/VarHandle" ∧ (parseMethodDescriptor yX6_liftedNow.desc).map (fun d => d.parameters.length) = some 0 := by decide +kernel
theorem kX6_liftedNow_86 : Cond.fieldLink RX6 86 "PaperLayersModel" "warmNow" "I" ∈ wsX6_liftedNow := List.mem_cons_of_mem _ (List.mem_append_left _ (List.mem_of_getElem? (i := 0) rfl))
theorem kX6_liftedNow_92 : Cond.fieldLink RX6 92 "PaperLayersModel" "dampNow" "I" ∈ wsX6_liftedNow := List.mem_cons_of_mem _ (List.mem_append_left _ (List.mem_of_getElem? (i := 1) rfl))
theorem inX6_liftedNow_6 : ∀ w ∈ wsX60, w ∈ wsX6_liftedNow := fun _ h => List.mem_cons_of_mem _ (List.mem_append_right _ (h))
set_option maxHeartbeats 4000000 in
set_option maxRecDepth 100000 in
theorem mX6_liftedNow (l : Launch) (G : GT) (hG : GD G) (μ : Mem) (r : Int32) (μ' : Mem) (hf : fX6_liftedNow μ = some (r, μ')) : Ct l yX6_liftedNow wsX6_liftedNow rmX6_liftedNow G [.ref (ga G 31)] μ (some (.int r)) μ' := by
  refine Ct.of (cc := cX6_liftedNow) (maxL := 1) (ret := (some .int)) (own := RX6) hG (by decide) rfl rfl (Nat.le_of_ble_eq_true rfl) ?_
  intro p e s m args below meth c ls H locs F hl hP hS
  have hl : lv_has ls 1 [(0, .ref (ga G 31))] := hl
  unfold fX6_liftedNow at hf
  refine lv_aload_n F.1.1 F.1.2.1 dX6_liftedNow_0 rfl (lv_at hl 0 rfl) ?_
  obtain ⟨u_3, μ_1, hc_2, hf⟩ := bnd_some hf
  refine rVv (R := rmX6_liftedNow) (As := []) (rest := []) F hP hS hl (mX6_orderAsIs l G F.2.2.2.2  _ _ _ hc_2) gX6_liftedNow_X6_orderAsIs rfl hdX6_orderAsIs rfl rfl rfl ⟨Nat.le_of_ble_eq_true rfl, Nat.le_of_ble_eq_true rfl⟩ (by decide) rfl rfl rfl (Nat.le_of_ble_eq_true rfl) ⟨Nat.le_of_ble_eq_true rfl, Nat.le_of_ble_eq_true rfl⟩ dX6_liftedNow_1 (fun H locs hP hS => ?_)
  refine lv_aload_n F.1.1 F.1.2.1 dX6_liftedNow_4 rfl (lv_at hl 0 rfl) ?_
  refine lv_aload_n F.1.1 F.1.2.1 dX6_liftedNow_5 rfl (lv_at hl 0 rfl) ?_
  refine gt_6_6 F hP 31 rfl inX6_liftedNow_6 kX6_liftedNow_86 dX6_liftedNow_6 ?_
  refine lv_aload_n F.1.1 F.1.2.1 dX6_liftedNow_9 rfl (lv_at hl 0 rfl) ?_
  refine gt_6_7 F hP 31 rfl inX6_liftedNow_6 kX6_liftedNow_92 dX6_liftedNow_10 ?_
  refine lv_iconst (v := (0 : Int32)) F.1.1 F.1.2.1 dX6_liftedNow_13 (by decide) ?_
  obtain ⟨r_6, μ_4, hc_5, hf⟩ := bnd_some hf
  refine rV1 (R := rmX6_liftedNow) (As := [.int (μ_1 31 6), .int (μ_1 31 7), .int (0 : Int32)]) (rest := []) F hP hS hl (mX6_liftedBy l G F.2.2.2.2 (μ_1 31 6) (μ_1 31 7) (0 : Int32) _ _ _ hc_5) gX6_liftedNow_X6_liftedBy rfl hdX6_liftedBy rfl rfl rfl ⟨Nat.le_of_ble_eq_true rfl, Nat.le_of_ble_eq_true rfl⟩ (by decide) rfl rfl rfl (Nat.le_of_ble_eq_true rfl) ⟨Nat.le_of_ble_eq_true rfl, Nat.le_of_ble_eq_true rfl⟩ dX6_liftedNow_14 (fun H locs hP hS => ?_)
  exact retI F hP hS dX6_liftedNow_17 hf
abbrev rmX6_ofLayer : Room := { frames := 4, cells := 0, slots := 0, locals := 94 }
theorem hdX6_ofLayer : yX6_ofLayer.cls = RX6 ∧ yX6_ofLayer.cls ≠ "java/lang/invoke/MethodHandle" ∧ yX6_ofLayer.cls ≠ "java/lang/invoke/VarHandle" ∧ (parseMethodDescriptor yX6_ofLayer.desc).map (fun d => d.parameters.length) = some 2 := by decide +kernel
theorem kX6_ofLayer_19 : Cond.fieldLink RX6 19 "PaperLayersModel" "kind" "[I" ∈ wsX6_ofLayer := List.mem_cons_of_mem _ (List.mem_append_left _ (List.mem_append_left _ (List.mem_of_getElem? (i := 0) rfl)))
theorem kX6_ofLayer_22 : Cond.fieldLink RX6 22 "PaperLayersModel" "hold" "[I" ∈ wsX6_ofLayer := List.mem_cons_of_mem _ (List.mem_append_left _ (List.mem_append_left _ (List.mem_of_getElem? (i := 1) rfl)))
theorem kX6_ofLayer_25 : Cond.fieldLink RX6 25 "PaperLayersModel" "advice" "[I" ∈ wsX6_ofLayer := List.mem_cons_of_mem _ (List.mem_append_left _ (List.mem_append_left _ (List.mem_of_getElem? (i := 2) rfl)))
theorem inX6_ofLayer_6 : ∀ w ∈ wsX60, w ∈ wsX6_ofLayer := fun _ h => List.mem_cons_of_mem _ (List.mem_append_right _ (h))
set_option maxHeartbeats 4000000 in
set_option maxRecDepth 100000 in
theorem mX6_ofLayer (l : Launch) (G : GT) (hG : GD G) (x1 : Int32) (x2 : Int32) (μ : Mem) (r : Int32) (μ' : Mem) (hf : fX6_ofLayer x1 x2 μ = some (r, μ')) : Ct l yX6_ofLayer wsX6_ofLayer rmX6_ofLayer G [.ref (ga G 31), .int x1, .int x2] μ (some (.int r)) μ' := by
  refine Ct.of (cc := cX6_ofLayer) (maxL := 3) (ret := (some .int)) (own := RX6) hG (by decide) rfl rfl (Nat.le_of_ble_eq_true rfl) ?_
  intro p e s m args below meth c ls H locs F hl hP hS
  have hl : lv_has ls 3 [(0, .ref (ga G 31)), (1, .int x1), (2, .int x2)] := hl
  unfold fX6_ofLayer at hf
  refine lv_aload_n F.1.1 F.1.2.1 dX6_ofLayer_0 rfl (lv_at hl 0 rfl) ?_
  refine lv_iload_n F.1.1 F.1.2.1 dX6_ofLayer_1 rfl (lv_at hl 1 rfl) ?_
  obtain ⟨r_3, μ_1, hc_2, hf⟩ := bnd_some hf
  refine rV1 (R := rmX6_ofLayer) (As := [.int x1]) (rest := []) F hP hS hl (mX6_isLayer l G F.2.2.2.2 x1 _ _ _ hc_2) gX6_ofLayer_X6_isLayer rfl hdX6_isLayer rfl rfl rfl ⟨Nat.le_of_ble_eq_true rfl, Nat.le_of_ble_eq_true rfl⟩ (by decide) rfl rfl rfl (Nat.le_of_ble_eq_true rfl) ⟨Nat.le_of_ble_eq_true rfl, Nat.le_of_ble_eq_true rfl⟩ dX6_ofLayer_2 (fun H locs hP hS => ?_)
  refine jz_ne (tgt := 10) F dX6_ofLayer_5 (by decide) hf (fun hf => ?_) (fun hf => ?_)
  · refine lv_iload_n F.1.1 F.1.2.1 dX6_ofLayer_10 rfl (lv_at hl 2 rfl) ?_
    refine split_sw (k := (0 : Int32)) hf (fun hk0 hf => ?_) (fun hn0 hf => ?_)
    · refine lv_tableIn (tgt := 48) (off := 37) F.1.1 F.1.2.1 dX6_ofLayer_11 (by rw [hk0]; decide) (by rw [hk0]; decide) (by rw [hk0]; rfl) (by decide) ?_
      refine lv_aload_n F.1.1 F.1.2.1 dX6_ofLayer_48 rfl (lv_at hl 0 rfl) ?_
      refine gt_6_8 F hP 31 rfl inX6_ofLayer_6 kX6_ofLayer_19 dX6_ofLayer_49 ?_
      refine lv_iload_n F.1.1 F.1.2.1 dX6_ofLayer_52 rfl (lv_at hl 1 rfl) ?_
      refine r_ial F hP 35 rfl rfl dX6_ofLayer_53 hf (fun hf => ?_)
      exact retI F hP hS dX6_ofLayer_54 hf
    refine split_sw (k := (1 : Int32)) hf (fun hk1 hf => ?_) (fun hn1 hf => ?_)
    · refine lv_tableIn (tgt := 55) (off := 44) F.1.1 F.1.2.1 dX6_ofLayer_11 (by rw [hk1]; decide) (by rw [hk1]; decide) (by rw [hk1]; rfl) (by decide) ?_
      refine lv_aload_n F.1.1 F.1.2.1 dX6_ofLayer_55 rfl (lv_at hl 0 rfl) ?_
      refine gt_6_9 F hP 31 rfl inX6_ofLayer_6 kX6_ofLayer_22 dX6_ofLayer_56 ?_
      refine lv_iload_n F.1.1 F.1.2.1 dX6_ofLayer_59 rfl (lv_at hl 1 rfl) ?_
      refine r_ial F hP 36 rfl rfl dX6_ofLayer_60 hf (fun hf => ?_)
      exact retI F hP hS dX6_ofLayer_61 hf
    refine split_sw (k := (2 : Int32)) hf (fun hk2 hf => ?_) (fun hn2 hf => ?_)
    · refine lv_tableIn (tgt := 62) (off := 51) F.1.1 F.1.2.1 dX6_ofLayer_11 (by rw [hk2]; decide) (by rw [hk2]; decide) (by rw [hk2]; rfl) (by decide) ?_
      refine lv_aload_n F.1.1 F.1.2.1 dX6_ofLayer_62 rfl (lv_at hl 0 rfl) ?_
      refine gt_6_10 F hP 31 rfl inX6_ofLayer_6 kX6_ofLayer_25 dX6_ofLayer_63 ?_
      refine lv_iload_n F.1.1 F.1.2.1 dX6_ofLayer_66 rfl (lv_at hl 1 rfl) ?_
      refine r_ial F hP 37 rfl rfl dX6_ofLayer_67 hf (fun hf => ?_)
      exact retI F hP hS dX6_ofLayer_68 hf
    refine split_sw (k := (3 : Int32)) hf (fun hk3 hf => ?_) (fun hn3 hf => ?_)
    · refine lv_tableIn (tgt := 69) (off := 58) F.1.1 F.1.2.1 dX6_ofLayer_11 (by rw [hk3]; decide) (by rw [hk3]; decide) (by rw [hk3]; rfl) (by decide) ?_
      refine lv_aload_n F.1.1 F.1.2.1 dX6_ofLayer_69 rfl (lv_at hl 0 rfl) ?_
      refine lv_iload_n F.1.1 F.1.2.1 dX6_ofLayer_70 rfl (lv_at hl 1 rfl) ?_
      obtain ⟨r_6, μ_4, hc_5, hf⟩ := bnd_some hf
      refine rV1 (R := rmX6_ofLayer) (As := [.int x1]) (rest := []) F hP hS hl (mX6_gripOf l G F.2.2.2.2 x1 _ _ _ hc_5) gX6_ofLayer_X6_gripOf rfl hdX6_gripOf rfl rfl rfl ⟨Nat.le_of_ble_eq_true rfl, Nat.le_of_ble_eq_true rfl⟩ (by decide) rfl rfl rfl (Nat.le_of_ble_eq_true rfl) ⟨Nat.le_of_ble_eq_true rfl, Nat.le_of_ble_eq_true rfl⟩ dX6_ofLayer_71 (fun H locs hP hS => ?_)
      exact retI F hP hS dX6_ofLayer_74 hf
    refine split_sw (k := (4 : Int32)) hf (fun hk4 hf => ?_) (fun hn4 hf => ?_)
    · refine lv_tableIn (tgt := 75) (off := 64) F.1.1 F.1.2.1 dX6_ofLayer_11 (by rw [hk4]; decide) (by rw [hk4]; decide) (by rw [hk4]; rfl) (by decide) ?_
      refine lv_aload_n F.1.1 F.1.2.1 dX6_ofLayer_75 rfl (lv_at hl 0 rfl) ?_
      obtain ⟨r_9, μ_7, hc_8, hf⟩ := bnd_some hf
      refine rV1 (R := rmX6_ofLayer) (As := []) (rest := []) F hP hS hl (mX6_liftedNow l G F.2.2.2.2  _ _ _ hc_8) gX6_ofLayer_X6_liftedNow rfl hdX6_liftedNow rfl rfl rfl ⟨Nat.le_of_ble_eq_true rfl, Nat.le_of_ble_eq_true rfl⟩ (by decide) rfl rfl rfl (Nat.le_of_ble_eq_true rfl) ⟨Nat.le_of_ble_eq_true rfl, Nat.le_of_ble_eq_true rfl⟩ dX6_ofLayer_76 (fun H locs hP hS => ?_)
      refine lv_iload_n F.1.1 F.1.2.1 dX6_ofLayer_79 rfl (lv_at hl 1 rfl) ?_
      refine lv_ishr F.1.1 F.1.2.1 dX6_ofLayer_80 ?_
      refine lv_iconst (v := (1 : Int32)) F.1.1 F.1.2.1 dX6_ofLayer_81 (by decide) ?_
      refine lv_iand F.1.1 F.1.2.1 dX6_ofLayer_82 ?_
      exact retI F hP hS dX6_ofLayer_83 hf
    refine split_sw (k := (5 : Int32)) hf (fun hk5 hf => ?_) (fun hn5 hf => ?_)
    · refine lv_tableIn (tgt := 84) (off := 73) F.1.1 F.1.2.1 dX6_ofLayer_11 (by rw [hk5]; decide) (by rw [hk5]; decide) (by rw [hk5]; rfl) (by decide) ?_
      refine lv_aload_n F.1.1 F.1.2.1 dX6_ofLayer_84 rfl (lv_at hl 0 rfl) ?_
      obtain ⟨r_12, μ_10, hc_11, hf⟩ := bnd_some hf
      refine rV1 (R := rmX6_ofLayer) (As := []) (rest := []) F hP hS hl (mX6_heardNow l G F.2.2.2.2  _ _ _ hc_11) gX6_ofLayer_X6_heardNow rfl hdX6_heardNow rfl rfl rfl ⟨Nat.le_of_ble_eq_true rfl, Nat.le_of_ble_eq_true rfl⟩ (by decide) rfl rfl rfl (Nat.le_of_ble_eq_true rfl) ⟨Nat.le_of_ble_eq_true rfl, Nat.le_of_ble_eq_true rfl⟩ dX6_ofLayer_85 (fun H locs hP hS => ?_)
      refine lv_iload_n F.1.1 F.1.2.1 dX6_ofLayer_88 rfl (lv_at hl 1 rfl) ?_
      refine lv_ishr F.1.1 F.1.2.1 dX6_ofLayer_89 ?_
      refine lv_iconst (v := (1 : Int32)) F.1.1 F.1.2.1 dX6_ofLayer_90 (by decide) ?_
      refine lv_iand F.1.1 F.1.2.1 dX6_ofLayer_91 ?_
      exact retI F hP hS dX6_ofLayer_92 hf
    refine lv_tableOut (tgt := 93) F.1.1 F.1.2.1 dX6_ofLayer_11 (by have q0 := lv_neT hn0 (a := 0) (by decide); have q1 := lv_neT hn1 (a := 1) (by decide); have q2 := lv_neT hn2 (a := 2) (by decide); have q3 := lv_neT hn3 (a := 3) (by decide); have q4 := lv_neT hn4 (a := 4) (by decide); have q5 := lv_neT hn5 (a := 5) (by decide); omega) (by decide) ?_
    refine lv_bipush (v := (-2 : Int32)) F.1.1 F.1.2.1 dX6_ofLayer_93 (by decide) ?_
    exact retI F hP hS dX6_ofLayer_95 hf
  · refine lv_iconst (v := (-1 : Int32)) F.1.1 F.1.2.1 dX6_ofLayer_8 (by decide) ?_
    exact retI F hP hS dX6_ofLayer_9 hf
abbrev rmX6_heat : Room := { frames := 1, cells := 0, slots := 0, locals := 22 }
theorem hdX6_heat : yX6_heat.cls = RX6 ∧ yX6_heat.cls ≠ "java/lang/invoke/MethodHandle" ∧ yX6_heat.cls ≠ "java/lang/invoke/VarHandle" ∧ (parseMethodDescriptor yX6_heat.desc).map (fun d => d.parameters.length) = some 1 := by decide +kernel
theorem kX6_heat_56 : Cond.fieldLink RX6 56 "PaperLayersModel" "layers" "I" ∈ wsX6_heat := List.mem_cons_of_mem _ (List.mem_append_left _ (List.mem_of_getElem? (i := 0) rfl))
theorem kX6_heat_86 : Cond.fieldLink RX6 86 "PaperLayersModel" "warmNow" "I" ∈ wsX6_heat := List.mem_cons_of_mem _ (List.mem_append_left _ (List.mem_of_getElem? (i := 1) rfl))
theorem inX6_heat_6 : ∀ w ∈ wsX60, w ∈ wsX6_heat := fun _ h => List.mem_cons_of_mem _ (List.mem_append_right _ (h))
set_option maxHeartbeats 4000000 in
set_option maxRecDepth 100000 in
theorem mX6_heat (l : Launch) (G : GT) (hG : GD G) (x1 : Int32) (μ : Mem) (r : Int32) (μ' : Mem) (hf : fX6_heat x1 μ = some (r, μ')) : Ct l yX6_heat wsX6_heat rmX6_heat G [.ref (ga G 31), .int x1] μ (some (.int r)) μ' := by
  refine Ct.of (cc := cX6_heat) (maxL := 3) (ret := (some .int)) (own := RX6) hG (by decide) rfl rfl (Nat.le_of_ble_eq_true rfl) ?_
  intro p e s m args below meth c ls H locs F hl hP hS
  have hl : lv_has ls 3 [(0, .ref (ga G 31)), (1, .int x1)] := hl
  unfold fX6_heat at hf
  refine lv_iload_n F.1.1 F.1.2.1 dX6_heat_0 rfl (lv_at hl 1 rfl) ?_
  refine lv_iconst (v := (0 : Int32)) F.1.1 F.1.2.1 dX6_heat_1 (by decide) ?_
  refine lv_bipush (v := (20 : Int32)) F.1.1 F.1.2.1 dX6_heat_2 (by decide) ?_
  obtain ⟨r_3, μ_1, hc_2, hf⟩ := bnd_some hf
  refine rS1 (R := rmX6_heat) (As := [.int x1, .int (0 : Int32), .int (20 : Int32)]) (rest := []) F hP hS hl (mX6_within l G F.2.2.2.2 x1 (0 : Int32) (20 : Int32) _ _ _ hc_2) gX6_heat_X6_within hdX6_within rfl rfl rfl ⟨Nat.le_of_ble_eq_true rfl, Nat.le_of_ble_eq_true rfl⟩ rfl rfl (Nat.le_of_ble_eq_true rfl) ⟨Nat.le_of_ble_eq_true rfl, Nat.le_of_ble_eq_true rfl⟩ dX6_heat_4 (fun H locs hP hS => ?_)
  refine jz_ne (tgt := 13) F dX6_heat_7 (by decide) hf (fun hf => ?_) (fun hf => ?_)
  · refine lv_aload_n F.1.1 F.1.2.1 dX6_heat_13 rfl (lv_at hl 0 rfl) ?_
    refine gt_6_5 F hP 31 rfl inX6_heat_6 kX6_heat_56 dX6_heat_14 ?_
    refine jz_ne (tgt := 23) F dX6_heat_17 (by decide) hf (fun hf => ?_) (fun hf => ?_)
    · refine lv_aload_n F.1.1 F.1.2.1 dX6_heat_23 rfl (lv_at hl 0 rfl) ?_
      refine gt_6_6 F hP 31 rfl inX6_heat_6 kX6_heat_86 dX6_heat_24 ?_
      refine top_i hf (fun y_4 hf => ?_)
      refine lv_istore_n (lv' := [(2, .int y_4), (0, .ref (ga G 31)), (1, .int x1)]) F.1.1 F.1.2.1 dX6_heat_27 rfl hl (by decide) rfl (fun ls hl => ?_)
      refine lv_aload_n F.1.1 F.1.2.1 dX6_heat_28 rfl (lv_at hl 1 rfl) ?_
      refine lv_iload_n F.1.1 F.1.2.1 dX6_heat_29 rfl (lv_at hl 2 rfl) ?_
      refine pt_6_6 F hP hS 31 rfl inX6_heat_6 kX6_heat_86 dX6_heat_30 hf (fun μ_5 H locs hP hS hf => ?_)
      refine lv_iload_n F.1.1 F.1.2.1 dX6_heat_33 rfl (lv_at hl 0 rfl) ?_
      exact retI F hP hS dX6_heat_34 hf
    · refine lv_bipush (v := (-3 : Int32)) F.1.1 F.1.2.1 dX6_heat_20 (by decide) ?_
      exact retI F hP hS dX6_heat_22 hf
  · refine lv_bipush (v := (-2 : Int32)) F.1.1 F.1.2.1 dX6_heat_10 (by decide) ?_
    exact retI F hP hS dX6_heat_12 hf
abbrev rmX6_wet : Room := { frames := 2, cells := 0, slots := 0, locals := 42 }
theorem hdX6_wet : yX6_wet.cls = RX6 ∧ yX6_wet.cls ≠ "java/lang/invoke/MethodHandle" ∧ yX6_wet.cls ≠ "java/lang/invoke/VarHandle" ∧ (parseMethodDescriptor yX6_wet.desc).map (fun d => d.parameters.length) = some 1 := by decide +kernel
theorem kX6_wet_56 : Cond.fieldLink RX6 56 "PaperLayersModel" "layers" "I" ∈ wsX6_wet := List.mem_cons_of_mem _ (List.mem_append_left _ (List.mem_of_getElem? (i := 0) rfl))
theorem kX6_wet_92 : Cond.fieldLink RX6 92 "PaperLayersModel" "dampNow" "I" ∈ wsX6_wet := List.mem_cons_of_mem _ (List.mem_append_left _ (List.mem_of_getElem? (i := 1) rfl))
theorem inX6_wet_6 : ∀ w ∈ wsX60, w ∈ wsX6_wet := fun _ h => List.mem_cons_of_mem _ (List.mem_append_right _ (h))
set_option maxHeartbeats 4000000 in
set_option maxRecDepth 100000 in
theorem mX6_wet (l : Launch) (G : GT) (hG : GD G) (x1 : Int32) (μ : Mem) (r : Int32) (μ' : Mem) (hf : fX6_wet x1 μ = some (r, μ')) : Ct l yX6_wet wsX6_wet rmX6_wet G [.ref (ga G 31), .int x1] μ (some (.int r)) μ' := by
  refine Ct.of (cc := cX6_wet) (maxL := 3) (ret := (some .int)) (own := RX6) hG (by decide) rfl rfl (Nat.le_of_ble_eq_true rfl) ?_
  intro p e s m args below meth c ls H locs F hl hP hS
  have hl : lv_has ls 3 [(0, .ref (ga G 31)), (1, .int x1)] := hl
  unfold fX6_wet at hf
  refine lv_iload_n F.1.1 F.1.2.1 dX6_wet_0 rfl (lv_at hl 1 rfl) ?_
  obtain ⟨r_3, μ_1, hc_2, hf⟩ := bnd_some hf
  refine rS1 (R := rmX6_wet) (As := [.int x1]) (rest := []) F hP hS hl (mX6_isDigit l G F.2.2.2.2 x1 _ _ _ hc_2) gX6_wet_X6_isDigit hdX6_isDigit rfl rfl rfl ⟨Nat.le_of_ble_eq_true rfl, Nat.le_of_ble_eq_true rfl⟩ rfl rfl (Nat.le_of_ble_eq_true rfl) ⟨Nat.le_of_ble_eq_true rfl, Nat.le_of_ble_eq_true rfl⟩ dX6_wet_1 (fun H locs hP hS => ?_)
  refine jz_ne (tgt := 10) F dX6_wet_4 (by decide) hf (fun hf => ?_) (fun hf => ?_)
  · refine lv_aload_n F.1.1 F.1.2.1 dX6_wet_10 rfl (lv_at hl 0 rfl) ?_
    refine gt_6_5 F hP 31 rfl inX6_wet_6 kX6_wet_56 dX6_wet_11 ?_
    refine jz_ne (tgt := 20) F dX6_wet_14 (by decide) hf (fun hf => ?_) (fun hf => ?_)
    · refine lv_aload_n F.1.1 F.1.2.1 dX6_wet_20 rfl (lv_at hl 0 rfl) ?_
      refine gt_6_7 F hP 31 rfl inX6_wet_6 kX6_wet_92 dX6_wet_21 ?_
      refine top_i hf (fun y_4 hf => ?_)
      refine lv_istore_n (lv' := [(2, .int y_4), (0, .ref (ga G 31)), (1, .int x1)]) F.1.1 F.1.2.1 dX6_wet_24 rfl hl (by decide) rfl (fun ls hl => ?_)
      refine lv_aload_n F.1.1 F.1.2.1 dX6_wet_25 rfl (lv_at hl 1 rfl) ?_
      refine lv_iload_n F.1.1 F.1.2.1 dX6_wet_26 rfl (lv_at hl 2 rfl) ?_
      refine pt_6_7 F hP hS 31 rfl inX6_wet_6 kX6_wet_92 dX6_wet_27 hf (fun μ_5 H locs hP hS hf => ?_)
      refine lv_iload_n F.1.1 F.1.2.1 dX6_wet_30 rfl (lv_at hl 0 rfl) ?_
      exact retI F hP hS dX6_wet_31 hf
    · refine lv_bipush (v := (-3 : Int32)) F.1.1 F.1.2.1 dX6_wet_17 (by decide) ?_
      exact retI F hP hS dX6_wet_19 hf
  · refine lv_bipush (v := (-2 : Int32)) F.1.1 F.1.2.1 dX6_wet_7 (by decide) ?_
    exact retI F hP hS dX6_wet_9 hf
