abbrev rmX6_goDays : Room := { frames := 5, cells := 0, slots := 0, locals := 109 }
theorem hdX6_goDays : yX6_goDays.cls = RX6 ∧ yX6_goDays.cls ≠ "java/lang/invoke/MethodHandle" ∧ yX6_goDays.cls ≠ "java/lang/invoke/VarHandle" ∧ (parseMethodDescriptor yX6_goDays.desc).map (fun d => d.parameters.length) = some 2 := by decide +kernel
theorem kX6_goDays_16 : Cond.fieldLink RX6 16 "PaperLayersModel" "cells" "[I" ∈ wsX6_goDays := List.mem_cons_of_mem _ (List.mem_append_left _ (List.mem_append_left _ (List.mem_of_getElem? (i := 1) rfl)))
theorem kX6_goDays_170 : Cond.fieldLink RX6 170 "PaperLayersModel" "often" "I" ∈ wsX6_goDays := List.mem_cons_of_mem _ (List.mem_append_left _ (List.mem_append_left _ (List.mem_of_getElem? (i := 0) rfl)))
theorem inX6_goDays_6 : ∀ w ∈ wsX60, w ∈ wsX6_goDays := fun _ h => List.mem_cons_of_mem _ (List.mem_append_right _ (h))
set_option maxHeartbeats 4000000 in
set_option maxRecDepth 100000 in
theorem lX6_goDays_L7 (l : Launch) (G : GT) {p : Program} {e : Env} {s : State} {m : MethodId} {args : Array Value} {below : List Frame} {meth : Method} {c : Code} (F : Fx p s m args meth c cX6_goDays 4 wsX6_goDays RX6 (some .int) G) (x1 : Int32) (x2 : Int32) (r : Int32) (μ' : Mem) : ∀ (fuel : Nat), ∀ (x3 : Int32) (μ : Mem) (H : Heap) (locs : List Loc) (ls : Array Slot), Hh G μ H → va_S (gA G) s.heap H locs → lv_has ls 4 [(0, .ref (ga G 31)), (1, .int x1), (2, .int x2), (3, .int x3)] → fX6_goDays_L7 x1 x2 fuel x3 μ = some (r, μ') → W p l e rmX6_goDays s m args below meth c H locs 0 0 (MQ below (Qg G (some (.int r)) μ') args s 0 0 (gA G)) (F0 m 7 ls []) := by
  intro fuel
  induction fuel with
  | zero =>
    intro x3 μ H locs ls hP hS hl hf
    exact absurd hf (by intro h; cases h)
  | succ fuel ih7 =>
    intro x3 μ H locs ls hP hS hl hf
    have hf : sX6_goDays_L7 (fX6_goDays_L7 x1 x2 fuel) x1 x2 x3 μ = some (r, μ') := hf
    unfold sX6_goDays_L7 at hf
    refine lv_iload_n F.1.1 F.1.2.1 dX6_goDays_7 rfl (lv_at hl 3 rfl) ?_
    refine lv_iload_n F.1.1 F.1.2.1 dX6_goDays_8 rfl (lv_at hl 2 rfl) ?_
    refine jc_ge (tgt := 70) F dX6_goDays_9 (by decide) hf (fun hf => ?_) (fun hf => ?_)
    · refine lv_bipush (v := (-9 : Int32)) F.1.1 F.1.2.1 dX6_goDays_70 (by decide) ?_
      exact retI F hP hS dX6_goDays_72 hf
    · refine lv_aload_n F.1.1 F.1.2.1 dX6_goDays_12 rfl (lv_at hl 0 rfl) ?_
      refine lv_aload_n F.1.1 F.1.2.1 dX6_goDays_13 rfl (lv_at hl 0 rfl) ?_
      refine gt_6_4 F hP 31 rfl inX6_goDays_6 kX6_goDays_16 dX6_goDays_14 ?_
      refine lv_iload_n F.1.1 F.1.2.1 dX6_goDays_17 rfl (lv_at hl 1 rfl) ?_
      refine lv_iconst (v := (2 : Int32)) F.1.1 F.1.2.1 dX6_goDays_18 (by decide) ?_
      refine lv_iload_n F.1.1 F.1.2.1 dX6_goDays_19 rfl (lv_at hl 3 rfl) ?_
      refine lv_imul F.1.1 F.1.2.1 dX6_goDays_20 ?_
      refine lv_iadd F.1.1 F.1.2.1 dX6_goDays_21 ?_
      refine r_ial F hP 34 rfl rfl dX6_goDays_22 hf (fun hf => ?_)
      refine lv_aload_n F.1.1 F.1.2.1 dX6_goDays_23 rfl (lv_at hl 0 rfl) ?_
      refine gt_6_4 F hP 31 rfl inX6_goDays_6 kX6_goDays_16 dX6_goDays_24 ?_
      refine lv_iload_n F.1.1 F.1.2.1 dX6_goDays_27 rfl (lv_at hl 1 rfl) ?_
      refine lv_iconst (v := (2 : Int32)) F.1.1 F.1.2.1 dX6_goDays_28 (by decide) ?_
      refine lv_iload_n F.1.1 F.1.2.1 dX6_goDays_29 rfl (lv_at hl 3 rfl) ?_
      refine lv_imul F.1.1 F.1.2.1 dX6_goDays_30 ?_
      refine lv_iadd F.1.1 F.1.2.1 dX6_goDays_31 ?_
      refine lv_iconst (v := (1 : Int32)) F.1.1 F.1.2.1 dX6_goDays_32 (by decide) ?_
      refine lv_iadd F.1.1 F.1.2.1 dX6_goDays_33 ?_
      refine r_ial F hP 34 rfl rfl dX6_goDays_34 hf (fun hf => ?_)
      obtain ⟨r_4, μ_2, hc_3, hf⟩ := bnd_some hf
      refine rV1 (R := rmX6_goDays) (As := [.int (μ 34 ((x1 + ((2 : Int32) * x3))).toNatClampNeg), .int (μ 34 (((x1 + ((2 : Int32) * x3)) + (1 : Int32))).toNatClampNeg)]) (rest := []) F hP hS hl (mX6_does l G F.2.2.2.2 (μ 34 ((x1 + ((2 : Int32) * x3))).toNatClampNeg) (μ 34 (((x1 + ((2 : Int32) * x3)) + (1 : Int32))).toNatClampNeg) _ _ _ hc_3) gX6_goDays_X6_does rfl hdX6_does rfl rfl rfl ⟨Nat.le_of_ble_eq_true rfl, Nat.le_of_ble_eq_true rfl⟩ (by decide) rfl rfl rfl (Nat.le_of_ble_eq_true rfl) ⟨Nat.le_of_ble_eq_true rfl, Nat.le_of_ble_eq_true rfl⟩ dX6_goDays_35 (fun H locs hP hS => ?_)
      refine jz_ne (tgt := 43) F dX6_goDays_38 (by decide) hf (fun hf => ?_) (fun hf => ?_)
      · refine lv_aload_n F.1.1 F.1.2.1 dX6_goDays_43 rfl (lv_at hl 0 rfl) ?_
        refine lv_dup F.1.1 F.1.2.1 dX6_goDays_44 rfl ?_
        refine gt_6_21 F hP 31 rfl inX6_goDays_6 kX6_goDays_170 dX6_goDays_45 ?_
        refine lv_aload_n F.1.1 F.1.2.1 dX6_goDays_48 rfl (lv_at hl 0 rfl) ?_
        obtain ⟨r_7, μ_5, hc_6, hf⟩ := bnd_some hf
        refine rV1 (R := rmX6_goDays) (As := []) (rest := [.int (μ_2 31 21), .ref (ga G 31)]) F hP hS hl (mX6_heardNow l G F.2.2.2.2  _ _ _ hc_6) gX6_goDays_X6_heardNow rfl hdX6_heardNow rfl rfl rfl ⟨Nat.le_of_ble_eq_true rfl, Nat.le_of_ble_eq_true rfl⟩ (by decide) rfl rfl rfl (Nat.le_of_ble_eq_true rfl) ⟨Nat.le_of_ble_eq_true rfl, Nat.le_of_ble_eq_true rfl⟩ dX6_goDays_49 (fun H locs hP hS => ?_)
        refine jz_ne (tgt := 59) F dX6_goDays_52 (by decide) hf (fun hf => ?_) (fun hf => ?_)
        · refine lv_iconst (v := (1 : Int32)) F.1.1 F.1.2.1 dX6_goDays_59 (by decide) ?_
          refine lv_iadd F.1.1 F.1.2.1 dX6_goDays_60 ?_
          refine pt_6_21 F hP hS 31 rfl inX6_goDays_6 kX6_goDays_170 dX6_goDays_61 hf (fun μ_8 H locs hP hS hf => ?_)
          refine top_n hf (fun y_9 ey_9 hf => ?_)
          refine lv_iinc (v := y_9) (lv' := [(3, .int y_9), (0, .ref (ga G 31)), (1, .int x1), (2, .int x2)]) F.1.1 F.1.2.1 dX6_goDays_64 hl (k := 3) rfl ey_9 (by decide) rfl (fun ls hl => ?_)
          refine lv_goto (tgt := 7) F.1.1 F.1.2.1 dX6_goDays_67 (by decide) ?_
          exact ih7 y_9 μ_8 H locs ls hP hS (lv_sub hl [1, 2, 3, 0] rfl) hf
        · refine lv_iconst (v := (0 : Int32)) F.1.1 F.1.2.1 dX6_goDays_55 (by decide) ?_
          refine lv_goto (tgt := 60) F.1.1 F.1.2.1 dX6_goDays_56 (by decide) ?_
          refine lv_iadd F.1.1 F.1.2.1 dX6_goDays_60 ?_
          refine pt_6_21 F hP hS 31 rfl inX6_goDays_6 kX6_goDays_170 dX6_goDays_61 hf (fun μ_10 H locs hP hS hf => ?_)
          refine top_n hf (fun y_11 ey_11 hf => ?_)
          refine lv_iinc (v := y_11) (lv' := [(3, .int y_11), (0, .ref (ga G 31)), (1, .int x1), (2, .int x2)]) F.1.1 F.1.2.1 dX6_goDays_64 hl (k := 3) rfl ey_11 (by decide) rfl (fun ls hl => ?_)
          refine lv_goto (tgt := 7) F.1.1 F.1.2.1 dX6_goDays_67 (by decide) ?_
          exact ih7 y_11 μ_10 H locs ls hP hS (lv_sub hl [1, 2, 3, 0] rfl) hf
      · refine lv_iload_n F.1.1 F.1.2.1 dX6_goDays_41 rfl (lv_at hl 3 rfl) ?_
        exact retI F hP hS dX6_goDays_42 hf
set_option maxHeartbeats 4000000 in
set_option maxRecDepth 100000 in
theorem mX6_goDays (l : Launch) (G : GT) (hG : GD G) (x1 : Int32) (x2 : Int32) (μ : Mem) (r : Int32) (μ' : Mem) (hf : fX6_goDays x1 x2 μ = some (r, μ')) : Ct l yX6_goDays wsX6_goDays rmX6_goDays G [.ref (ga G 31), .int x1, .int x2] μ (some (.int r)) μ' := by
  refine Ct.of (cc := cX6_goDays) (maxL := 4) (ret := (some .int)) (own := RX6) hG (by decide) rfl rfl (Nat.le_of_ble_eq_true rfl) ?_
  intro p e s m args below meth c ls H locs F hl hP hS
  have hl : lv_has ls 4 [(0, .ref (ga G 31)), (1, .int x1), (2, .int x2)] := hl
  unfold fX6_goDays at hf
  refine lv_aload_n F.1.1 F.1.2.1 dX6_goDays_0 rfl (lv_at hl 0 rfl) ?_
  refine lv_iconst (v := (0 : Int32)) F.1.1 F.1.2.1 dX6_goDays_1 (by decide) ?_
  refine pt_6_21 F hP hS 31 rfl inX6_goDays_6 kX6_goDays_170 dX6_goDays_2 hf (fun μ_1 H locs hP hS hf => ?_)
  refine lv_iconst (v := (0 : Int32)) F.1.1 F.1.2.1 dX6_goDays_5 (by decide) ?_
  refine lv_istore_n (lv' := [(3, .int (0 : Int32)), (0, .ref (ga G 31)), (1, .int x1), (2, .int x2)]) F.1.1 F.1.2.1 dX6_goDays_6 rfl hl (by decide) rfl (fun ls hl => ?_)
  exact lX6_goDays_L7 l G F x1 x2 _ _ FU (0 : Int32) μ_1 H locs ls hP hS (lv_sub hl [1, 2, 3, 0] rfl) hf
abbrev rmX6_tellDays : Room := { frames := 4, cells := 0, slots := 0, locals := 102 }
theorem hdX6_tellDays : yX6_tellDays.cls = RX6 ∧ yX6_tellDays.cls ≠ "java/lang/invoke/MethodHandle" ∧ yX6_tellDays.cls ≠ "java/lang/invoke/VarHandle" ∧ (parseMethodDescriptor yX6_tellDays.desc).map (fun d => d.parameters.length) = some 1 := by decide +kernel
theorem kX6_tellDays_170 : Cond.fieldLink RX6 170 "PaperLayersModel" "often" "I" ∈ wsX6_tellDays := List.mem_cons_of_mem _ (List.mem_append_left _ (List.mem_append_left _ (List.mem_of_getElem? (i := 3) rfl)))
theorem kX6_tellDays_56 : Cond.fieldLink RX6 56 "PaperLayersModel" "layers" "I" ∈ wsX6_tellDays := List.mem_cons_of_mem _ (List.mem_append_left _ (List.mem_append_left _ (List.mem_of_getElem? (i := 2) rfl)))
theorem kX6_tellDays_86 : Cond.fieldLink RX6 86 "PaperLayersModel" "warmNow" "I" ∈ wsX6_tellDays := List.mem_cons_of_mem _ (List.mem_append_left _ (List.mem_append_left _ (List.mem_of_getElem? (i := 0) rfl)))
theorem kX6_tellDays_92 : Cond.fieldLink RX6 92 "PaperLayersModel" "dampNow" "I" ∈ wsX6_tellDays := List.mem_cons_of_mem _ (List.mem_append_left _ (List.mem_append_left _ (List.mem_of_getElem? (i := 1) rfl)))
theorem inX6_tellDays_6 : ∀ w ∈ wsX60, w ∈ wsX6_tellDays := fun _ h => List.mem_cons_of_mem _ (List.mem_append_right _ (h))
set_option maxHeartbeats 4000000 in
set_option maxRecDepth 100000 in
theorem mX6_tellDays (l : Launch) (G : GT) (hG : GD G) (x1 : Int32) (μ : Mem) (r : Int32) (μ' : Mem) (hf : fX6_tellDays x1 μ = some (r, μ')) : Ct l yX6_tellDays wsX6_tellDays rmX6_tellDays G [.ref (ga G 31), .int x1] μ (some (.int r)) μ' := by
  refine Ct.of (cc := cX6_tellDays) (maxL := 2) (ret := (some .int)) (own := RX6) hG (by decide) rfl rfl (Nat.le_of_ble_eq_true rfl) ?_
  intro p e s m args below meth c ls H locs F hl hP hS
  have hl : lv_has ls 2 [(0, .ref (ga G 31)), (1, .int x1)] := hl
  unfold fX6_tellDays at hf
  refine lv_iload_n F.1.1 F.1.2.1 dX6_tellDays_0 rfl (lv_at hl 1 rfl) ?_
  refine lv_iconst (v := (2 : Int32)) F.1.1 F.1.2.1 dX6_tellDays_1 (by decide) ?_
  refine jc_ne (tgt := 23) F dX6_tellDays_2 (by decide) hf (fun hf => ?_) (fun hf => ?_)
  · refine lv_iload_n F.1.1 F.1.2.1 dX6_tellDays_23 rfl (lv_at hl 1 rfl) ?_
    refine jz_ne (tgt := 34) F dX6_tellDays_24 (by decide) hf (fun hf => ?_) (fun hf => ?_)
    · refine lv_iload_n F.1.1 F.1.2.1 dX6_tellDays_34 rfl (lv_at hl 1 rfl) ?_
      refine lv_iconst (v := (3 : Int32)) F.1.1 F.1.2.1 dX6_tellDays_35 (by decide) ?_
      refine jc_ne (tgt := 46) F dX6_tellDays_36 (by decide) hf (fun hf => ?_) (fun hf => ?_)
      · refine lv_aload_n F.1.1 F.1.2.1 dX6_tellDays_46 rfl (lv_at hl 0 rfl) ?_
        refine gt_6_21 F hP 31 rfl inX6_tellDays_6 kX6_tellDays_170 dX6_tellDays_47 ?_
        exact retI F hP hS dX6_tellDays_50 hf
      · refine lv_aload_n F.1.1 F.1.2.1 dX6_tellDays_39 rfl (lv_at hl 0 rfl) ?_
        obtain ⟨r_3, μ_1, hc_2, hf⟩ := bnd_some hf
        refine rV1 (R := rmX6_tellDays) (As := []) (rest := []) F hP hS hl (mX6_heardNow l G F.2.2.2.2  _ _ _ hc_2) gX6_tellDays_X6_heardNow rfl hdX6_heardNow rfl rfl rfl ⟨Nat.le_of_ble_eq_true rfl, Nat.le_of_ble_eq_true rfl⟩ (by decide) rfl rfl rfl (Nat.le_of_ble_eq_true rfl) ⟨Nat.le_of_ble_eq_true rfl, Nat.le_of_ble_eq_true rfl⟩ dX6_tellDays_40 (fun H locs hP hS => ?_)
        refine lv_goto (tgt := 50) F.1.1 F.1.2.1 dX6_tellDays_43 (by decide) ?_
        exact retI F hP hS dX6_tellDays_50 hf
    · refine lv_aload_n F.1.1 F.1.2.1 dX6_tellDays_27 rfl (lv_at hl 0 rfl) ?_
      refine gt_6_5 F hP 31 rfl inX6_tellDays_6 kX6_tellDays_56 dX6_tellDays_28 ?_
      refine lv_goto (tgt := 50) F.1.1 F.1.2.1 dX6_tellDays_31 (by decide) ?_
      exact retI F hP hS dX6_tellDays_50 hf
  · refine lv_aload_n F.1.1 F.1.2.1 dX6_tellDays_5 rfl (lv_at hl 0 rfl) ?_
    obtain ⟨u_6, μ_4, hc_5, hf⟩ := bnd_some hf
    refine rVv (R := rmX6_tellDays) (As := []) (rest := []) F hP hS hl (mX6_orderAsIs l G F.2.2.2.2  _ _ _ hc_5) gX6_tellDays_X6_orderAsIs rfl hdX6_orderAsIs rfl rfl rfl ⟨Nat.le_of_ble_eq_true rfl, Nat.le_of_ble_eq_true rfl⟩ (by decide) rfl rfl rfl (Nat.le_of_ble_eq_true rfl) ⟨Nat.le_of_ble_eq_true rfl, Nat.le_of_ble_eq_true rfl⟩ dX6_tellDays_6 (fun H locs hP hS => ?_)
    refine lv_aload_n F.1.1 F.1.2.1 dX6_tellDays_9 rfl (lv_at hl 0 rfl) ?_
    refine lv_aload_n F.1.1 F.1.2.1 dX6_tellDays_10 rfl (lv_at hl 0 rfl) ?_
    refine gt_6_6 F hP 31 rfl inX6_tellDays_6 kX6_tellDays_86 dX6_tellDays_11 ?_
    refine lv_aload_n F.1.1 F.1.2.1 dX6_tellDays_14 rfl (lv_at hl 0 rfl) ?_
    refine gt_6_7 F hP 31 rfl inX6_tellDays_6 kX6_tellDays_92 dX6_tellDays_15 ?_
    refine lv_iconst (v := (0 : Int32)) F.1.1 F.1.2.1 dX6_tellDays_18 (by decide) ?_
    obtain ⟨r_9, μ_7, hc_8, hf⟩ := bnd_some hf
    refine rV1 (R := rmX6_tellDays) (As := [.int (μ_4 31 6), .int (μ_4 31 7), .int (0 : Int32)]) (rest := []) F hP hS hl (mX6_counselBy l G F.2.2.2.2 (μ_4 31 6) (μ_4 31 7) (0 : Int32) _ _ _ hc_8) gX6_tellDays_X6_counselBy rfl hdX6_counselBy rfl rfl rfl ⟨Nat.le_of_ble_eq_true rfl, Nat.le_of_ble_eq_true rfl⟩ (by decide) rfl rfl rfl (Nat.le_of_ble_eq_true rfl) ⟨Nat.le_of_ble_eq_true rfl, Nat.le_of_ble_eq_true rfl⟩ dX6_tellDays_19 (fun H locs hP hS => ?_)
    exact retI F hP hS dX6_tellDays_22 hf
abbrev rmX6_days : Room := { frames := 6, cells := 0, slots := 0, locals := 132 }
theorem hdX6_days : yX6_days.cls = RX6 ∧ yX6_days.cls ≠ "java/lang/invoke/MethodHandle" ∧ yX6_days.cls ≠ "java/lang/invoke/VarHandle" ∧ (parseMethodDescriptor yX6_days.desc).map (fun d => d.parameters.length) = some 5 := by decide +kernel
theorem kX6_days_16 : Cond.fieldLink RX6 16 "PaperLayersModel" "cells" "[I" ∈ wsX6_days := List.mem_cons_of_mem _ (List.mem_append_left _ (List.mem_append_left _ (List.mem_of_getElem? (i := 2) rfl)))
theorem kX6_days_46 : Cond.fieldLink RX6 46 "PaperLayersModel" "fault" "I" ∈ wsX6_days := List.mem_cons_of_mem _ (List.mem_append_left _ (List.mem_append_left _ (List.mem_of_getElem? (i := 0) rfl)))
theorem kX6_days_56 : Cond.fieldLink RX6 56 "PaperLayersModel" "layers" "I" ∈ wsX6_days := List.mem_cons_of_mem _ (List.mem_append_left _ (List.mem_append_left _ (List.mem_of_getElem? (i := 1) rfl)))
theorem inX6_days_6 : ∀ w ∈ wsX60, w ∈ wsX6_days := fun _ h => List.mem_cons_of_mem _ (List.mem_append_right _ (h))
set_option maxHeartbeats 4000000 in
set_option maxRecDepth 100000 in
theorem lX6_days_L91 (l : Launch) (G : GT) {p : Program} {e : Env} {s : State} {m : MethodId} {args : Array Value} {below : List Frame} {meth : Method} {c : Code} (F : Fx p s m args meth c cX6_days 10 wsX6_days RX6 (some .int) G) (x4 : Int32) (x5 : Int32) (x7 : Int32) (r : Int32) (μ' : Mem) : ∀ (fuel : Nat), ∀ (x8 : Int32) (μ : Mem) (H : Heap) (locs : List Loc) (ls : Array Slot), Hh G μ H → va_S (gA G) s.heap H locs → lv_has ls 10 [(0, .ref (ga G 31)), (4, .int x4), (5, .int x5), (7, .int x7), (8, .int x8)] → fX6_days_L91 x4 x5 x7 fuel x8 μ = some (r, μ') → W p l e rmX6_days s m args below meth c H locs 0 0 (MQ below (Qg G (some (.int r)) μ') args s 0 0 (gA G)) (F0 m 91 ls []) := by
  intro fuel
  induction fuel with
  | zero =>
    intro x8 μ H locs ls hP hS hl hf
    exact absurd hf (by intro h; cases h)
  | succ fuel ih91 =>
    intro x8 μ H locs ls hP hS hl hf
    have hf : sX6_days_L91 (fX6_days_L91 x4 x5 x7 fuel) x4 x5 x7 x8 μ = some (r, μ') := hf
    unfold sX6_days_L91 at hf
    refine lv_iload F.1.1 F.1.2.1 dX6_days_91 (lv_at hl 4 rfl) ?_
    refine lv_iload F.1.1 F.1.2.1 dX6_days_93 (lv_at hl 1 rfl) ?_
    refine jc_ge (tgt := 139) F dX6_days_95 (by decide) hf (fun hf => ?_) (fun hf => ?_)
    · refine lv_aload_n F.1.1 F.1.2.1 dX6_days_139 rfl (lv_at hl 0 rfl) ?_
      obtain ⟨u_23, μ_21, hc_22, hf⟩ := bnd_some hf
      refine rVv (R := rmX6_days) (As := []) (rest := []) F hP hS hl (mX6_keep l G F.2.2.2.2  _ _ _ hc_22) gX6_days_X6_keep rfl hdX6_keep rfl rfl rfl ⟨Nat.le_of_ble_eq_true rfl, Nat.le_of_ble_eq_true rfl⟩ (by decide) rfl rfl rfl (Nat.le_of_ble_eq_true rfl) ⟨Nat.le_of_ble_eq_true rfl, Nat.le_of_ble_eq_true rfl⟩ dX6_days_140 (fun H locs hP hS => ?_)
      refine lv_aload_n F.1.1 F.1.2.1 dX6_days_143 rfl (lv_at hl 0 rfl) ?_
      refine lv_iload F.1.1 F.1.2.1 dX6_days_144 (lv_at hl 3 rfl) ?_
      refine lv_iload F.1.1 F.1.2.1 dX6_days_146 (lv_at hl 1 rfl) ?_
      obtain ⟨r_26, μ_24, hc_25, hf⟩ := bnd_some hf
      refine rV1 (R := rmX6_days) (As := [.int x7, .int x4]) (rest := []) F hP hS hl (mX6_goDays l G F.2.2.2.2 x7 x4 _ _ _ hc_25) gX6_days_X6_goDays rfl hdX6_goDays rfl rfl rfl ⟨Nat.le_of_ble_eq_true rfl, Nat.le_of_ble_eq_true rfl⟩ (by decide) rfl rfl rfl (Nat.le_of_ble_eq_true rfl) ⟨Nat.le_of_ble_eq_true rfl, Nat.le_of_ble_eq_true rfl⟩ dX6_days_148 (fun H locs hP hS => ?_)
      refine lv_istore (lv' := [(8, .int r_26), (0, .ref (ga G 31)), (4, .int x4), (5, .int x5), (7, .int x7)]) F.1.1 F.1.2.1 dX6_days_151 hl (by decide) rfl (fun ls hl => ?_)
      refine lv_aload_n F.1.1 F.1.2.1 dX6_days_153 rfl (lv_at hl 1 rfl) ?_
      refine lv_iload F.1.1 F.1.2.1 dX6_days_154 (lv_at hl 3 rfl) ?_
      obtain ⟨r_29, μ_27, hc_28, hf⟩ := bnd_some hf
      refine rV1 (R := rmX6_days) (As := [.int x5]) (rest := []) F hP hS hl (mX6_tellDays l G F.2.2.2.2 x5 _ _ _ hc_28) gX6_days_X6_tellDays rfl hdX6_tellDays rfl rfl rfl ⟨Nat.le_of_ble_eq_true rfl, Nat.le_of_ble_eq_true rfl⟩ (by decide) rfl rfl rfl (Nat.le_of_ble_eq_true rfl) ⟨Nat.le_of_ble_eq_true rfl, Nat.le_of_ble_eq_true rfl⟩ dX6_days_156 (fun H locs hP hS => ?_)
      refine lv_istore (lv' := [(9, .int r_29), (8, .int r_26), (0, .ref (ga G 31)), (4, .int x4), (5, .int x5), (7, .int x7)]) F.1.1 F.1.2.1 dX6_days_159 hl (by decide) rfl (fun ls hl => ?_)
      refine lv_aload_n F.1.1 F.1.2.1 dX6_days_161 rfl (lv_at hl 2 rfl) ?_
      obtain ⟨u_32, μ_30, hc_31, hf⟩ := bnd_some hf
      refine rVv (R := rmX6_days) (As := []) (rest := []) F hP hS hl (mX6_putBack l G F.2.2.2.2  _ _ _ hc_31) gX6_days_X6_putBack rfl hdX6_putBack rfl rfl rfl ⟨Nat.le_of_ble_eq_true rfl, Nat.le_of_ble_eq_true rfl⟩ (by decide) rfl rfl rfl (Nat.le_of_ble_eq_true rfl) ⟨Nat.le_of_ble_eq_true rfl, Nat.le_of_ble_eq_true rfl⟩ dX6_days_162 (fun H locs hP hS => ?_)
      refine lv_iload F.1.1 F.1.2.1 dX6_days_165 (lv_at hl 4 rfl) ?_
      refine lv_iconst (v := (1 : Int32)) F.1.1 F.1.2.1 dX6_days_167 (by decide) ?_
      refine jc_ne (tgt := 176) F dX6_days_168 (by decide) hf (fun hf => ?_) (fun hf => ?_)
      · refine lv_iload F.1.1 F.1.2.1 dX6_days_176 (lv_at hl 1 rfl) ?_
        refine lv_bipush (v := (-9 : Int32)) F.1.1 F.1.2.1 dX6_days_178 (by decide) ?_
        refine jc_ne (tgt := 188) F dX6_days_180 (by decide) hf (fun hf => ?_) (fun hf => ?_)
        · refine lv_bipush (v := (-100 : Int32)) F.1.1 F.1.2.1 dX6_days_188 (by decide) ?_
          refine lv_iload F.1.1 F.1.2.1 dX6_days_190 (lv_at hl 1 rfl) ?_
          refine lv_isub F.1.1 F.1.2.1 dX6_days_192 ?_
          exact retI F hP hS dX6_days_193 hf
        · refine lv_iload F.1.1 F.1.2.1 dX6_days_183 (lv_at hl 0 rfl) ?_
          refine lv_goto (tgt := 193) F.1.1 F.1.2.1 dX6_days_185 (by decide) ?_
          exact retI F hP hS dX6_days_193 hf
      · refine lv_iload F.1.1 F.1.2.1 dX6_days_171 (lv_at hl 1 rfl) ?_
        refine lv_goto (tgt := 193) F.1.1 F.1.2.1 dX6_days_173 (by decide) ?_
        exact retI F hP hS dX6_days_193 hf
    · refine lv_aload_n F.1.1 F.1.2.1 dX6_days_98 rfl (lv_at hl 0 rfl) ?_
      refine gt_6_4 F hP 31 rfl inX6_days_6 kX6_days_16 dX6_days_99 ?_
      refine lv_iload F.1.1 F.1.2.1 dX6_days_102 (lv_at hl 3 rfl) ?_
      refine lv_iconst (v := (2 : Int32)) F.1.1 F.1.2.1 dX6_days_104 (by decide) ?_
      refine lv_iload F.1.1 F.1.2.1 dX6_days_105 (lv_at hl 4 rfl) ?_
      refine lv_imul F.1.1 F.1.2.1 dX6_days_107 ?_
      refine lv_iadd F.1.1 F.1.2.1 dX6_days_108 ?_
      refine r_ial F hP 34 rfl rfl dX6_days_109 hf (fun hf => ?_)
      refine lv_aload_n F.1.1 F.1.2.1 dX6_days_110 rfl (lv_at hl 0 rfl) ?_
      refine gt_6_4 F hP 31 rfl inX6_days_6 kX6_days_16 dX6_days_111 ?_
      refine lv_iload F.1.1 F.1.2.1 dX6_days_114 (lv_at hl 3 rfl) ?_
      refine lv_iconst (v := (2 : Int32)) F.1.1 F.1.2.1 dX6_days_116 (by decide) ?_
      refine lv_iload F.1.1 F.1.2.1 dX6_days_117 (lv_at hl 4 rfl) ?_
      refine lv_imul F.1.1 F.1.2.1 dX6_days_119 ?_
      refine lv_iadd F.1.1 F.1.2.1 dX6_days_120 ?_
      refine lv_iconst (v := (1 : Int32)) F.1.1 F.1.2.1 dX6_days_121 (by decide) ?_
      refine lv_iadd F.1.1 F.1.2.1 dX6_days_122 ?_
      refine r_ial F hP 34 rfl rfl dX6_days_123 hf (fun hf => ?_)
      obtain ⟨r_35, μ_33, hc_34, hf⟩ := bnd_some hf
      refine rS1 (R := rmX6_days) (As := [.int (μ 34 ((x7 + ((2 : Int32) * x8))).toNatClampNeg), .int (μ 34 (((x7 + ((2 : Int32) * x8)) + (1 : Int32))).toNatClampNeg)]) (rest := []) F hP hS hl (mX6_isPair l G F.2.2.2.2 (μ 34 ((x7 + ((2 : Int32) * x8))).toNatClampNeg) (μ 34 (((x7 + ((2 : Int32) * x8)) + (1 : Int32))).toNatClampNeg) _ _ _ hc_34) gX6_days_X6_isPair hdX6_isPair rfl rfl rfl ⟨Nat.le_of_ble_eq_true rfl, Nat.le_of_ble_eq_true rfl⟩ rfl rfl (Nat.le_of_ble_eq_true rfl) ⟨Nat.le_of_ble_eq_true rfl, Nat.le_of_ble_eq_true rfl⟩ dX6_days_124 (fun H locs hP hS => ?_)
      refine jz_ne (tgt := 133) F dX6_days_127 (by decide) hf (fun hf => ?_) (fun hf => ?_)
      · refine top_n hf (fun y_36 ey_36 hf => ?_)
        refine lv_iinc (v := y_36) (lv' := [(8, .int y_36), (0, .ref (ga G 31)), (4, .int x4), (5, .int x5), (7, .int x7)]) F.1.1 F.1.2.1 dX6_days_133 hl (k := 4) rfl ey_36 (by decide) rfl (fun ls hl => ?_)
        refine lv_goto (tgt := 91) F.1.1 F.1.2.1 dX6_days_136 (by decide) ?_
        exact ih91 y_36 μ_33 H locs ls hP hS (lv_sub hl [1, 2, 3, 4, 0] rfl) hf
      · refine lv_bipush (v := (-2 : Int32)) F.1.1 F.1.2.1 dX6_days_130 (by decide) ?_
        exact retI F hP hS dX6_days_132 hf
set_option maxHeartbeats 4000000 in
set_option maxRecDepth 100000 in
theorem mX6_days (l : Launch) (G : GT) (hG : GD G) (x1 : Int32) (x2 : Int32) (x3 : Int32) (x4 : Int32) (x5 : Int32) (μ : Mem) (r : Int32) (μ' : Mem) (hf : fX6_days x1 x2 x3 x4 x5 μ = some (r, μ')) : Ct l yX6_days wsX6_days rmX6_days G [.ref (ga G 31), .int x1, .int x2, .int x3, .int x4, .int x5] μ (some (.int r)) μ' := by
  refine Ct.of (cc := cX6_days) (maxL := 10) (ret := (some .int)) (own := RX6) hG (by decide) rfl rfl (Nat.le_of_ble_eq_true rfl) ?_
  intro p e s m args below meth c ls H locs F hl hP hS
  have hl : lv_has ls 10 [(0, .ref (ga G 31)), (1, .int x1), (2, .int x2), (3, .int x3), (4, .int x4), (5, .int x5)] := hl
  unfold fX6_days at hf
  refine lv_aload_n F.1.1 F.1.2.1 dX6_days_0 rfl (lv_at hl 0 rfl) ?_
  refine lv_iconst (v := (0 : Int32)) F.1.1 F.1.2.1 dX6_days_1 (by decide) ?_
  refine pt_6_0 F hP hS 31 rfl inX6_days_6 kX6_days_46 dX6_days_2 hf (fun μ_1 H locs hP hS hf => ?_)
  refine lv_iload_n F.1.1 F.1.2.1 dX6_days_5 rfl (lv_at hl 1 rfl) ?_
  obtain ⟨r_4, μ_2, hc_3, hf⟩ := bnd_some hf
  refine rS1 (R := rmX6_days) (As := [.int x1]) (rest := []) F hP hS hl (mX6_isSheet l G F.2.2.2.2 x1 _ _ _ hc_3) gX6_days_X6_isSheet hdX6_isSheet rfl rfl rfl ⟨Nat.le_of_ble_eq_true rfl, Nat.le_of_ble_eq_true rfl⟩ rfl rfl (Nat.le_of_ble_eq_true rfl) ⟨Nat.le_of_ble_eq_true rfl, Nat.le_of_ble_eq_true rfl⟩ dX6_days_6 (fun H locs hP hS => ?_)
  refine jz_ne (tgt := 14) F dX6_days_9 (by decide) hf (fun hf => ?_) (fun hf => ?_)
  · refine lv_iload_n F.1.1 F.1.2.1 dX6_days_14 rfl (lv_at hl 2 rfl) ?_
    obtain ⟨r_7, μ_5, hc_6, hf⟩ := bnd_some hf
    refine rS1 (R := rmX6_days) (As := [.int x2]) (rest := []) F hP hS hl (mX6_isSort l G F.2.2.2.2 x2 _ _ _ hc_6) gX6_days_X6_isSort hdX6_isSort rfl rfl rfl ⟨Nat.le_of_ble_eq_true rfl, Nat.le_of_ble_eq_true rfl⟩ rfl rfl (Nat.le_of_ble_eq_true rfl) ⟨Nat.le_of_ble_eq_true rfl, Nat.le_of_ble_eq_true rfl⟩ dX6_days_15 (fun H locs hP hS => ?_)
    refine jz_eq (tgt := 42) F dX6_days_18 (by decide) hf (fun hf => ?_) (fun hf => ?_)
    · refine lv_bipush (v := (-2 : Int32)) F.1.1 F.1.2.1 dX6_days_42 (by decide) ?_
      exact retI F hP hS dX6_days_44 hf
    · refine lv_iload F.1.1 F.1.2.1 dX6_days_21 (lv_at hl 4 rfl) ?_
      refine lv_iconst (v := (0 : Int32)) F.1.1 F.1.2.1 dX6_days_23 (by decide) ?_
      refine lv_bipush (v := (20 : Int32)) F.1.1 F.1.2.1 dX6_days_24 (by decide) ?_
      obtain ⟨r_10, μ_8, hc_9, hf⟩ := bnd_some hf
      refine rS1 (R := rmX6_days) (As := [.int x4, .int (0 : Int32), .int (20 : Int32)]) (rest := []) F hP hS hl (mX6_within l G F.2.2.2.2 x4 (0 : Int32) (20 : Int32) _ _ _ hc_9) gX6_days_X6_within hdX6_within rfl rfl rfl ⟨Nat.le_of_ble_eq_true rfl, Nat.le_of_ble_eq_true rfl⟩ rfl rfl (Nat.le_of_ble_eq_true rfl) ⟨Nat.le_of_ble_eq_true rfl, Nat.le_of_ble_eq_true rfl⟩ dX6_days_26 (fun H locs hP hS => ?_)
      refine jz_eq (tgt := 42) F dX6_days_29 (by decide) hf (fun hf => ?_) (fun hf => ?_)
      · refine lv_bipush (v := (-2 : Int32)) F.1.1 F.1.2.1 dX6_days_42 (by decide) ?_
        exact retI F hP hS dX6_days_44 hf
      · refine lv_iload F.1.1 F.1.2.1 dX6_days_32 (lv_at hl 5 rfl) ?_
        refine lv_iconst (v := (0 : Int32)) F.1.1 F.1.2.1 dX6_days_34 (by decide) ?_
        refine lv_iconst (v := (4 : Int32)) F.1.1 F.1.2.1 dX6_days_35 (by decide) ?_
        obtain ⟨r_13, μ_11, hc_12, hf⟩ := bnd_some hf
        refine rS1 (R := rmX6_days) (As := [.int x5, .int (0 : Int32), .int (4 : Int32)]) (rest := []) F hP hS hl (mX6_within l G F.2.2.2.2 x5 (0 : Int32) (4 : Int32) _ _ _ hc_12) gX6_days_X6_within hdX6_within rfl rfl rfl ⟨Nat.le_of_ble_eq_true rfl, Nat.le_of_ble_eq_true rfl⟩ rfl rfl (Nat.le_of_ble_eq_true rfl) ⟨Nat.le_of_ble_eq_true rfl, Nat.le_of_ble_eq_true rfl⟩ dX6_days_36 (fun H locs hP hS => ?_)
        refine jz_ne (tgt := 45) F dX6_days_39 (by decide) hf (fun hf => ?_) (fun hf => ?_)
        · refine lv_aload_n F.1.1 F.1.2.1 dX6_days_45 rfl (lv_at hl 0 rfl) ?_
          refine lv_iload_n F.1.1 F.1.2.1 dX6_days_46 rfl (lv_at hl 1 rfl) ?_
          refine lv_iload_n F.1.1 F.1.2.1 dX6_days_47 rfl (lv_at hl 2 rfl) ?_
          refine lv_iload_n F.1.1 F.1.2.1 dX6_days_48 rfl (lv_at hl 3 rfl) ?_
          refine lv_iconst (v := (2 : Int32)) F.1.1 F.1.2.1 dX6_days_49 (by decide) ?_
          refine lv_iload F.1.1 F.1.2.1 dX6_days_50 (lv_at hl 4 rfl) ?_
          refine lv_imul F.1.1 F.1.2.1 dX6_days_52 ?_
          obtain ⟨r_16, μ_14, hc_15, hf⟩ := bnd_some hf
          refine rV1 (R := rmX6_days) (As := [.int x1, .int x2, .int x3, .int ((2 : Int32) * x4)]) (rest := []) F hP hS hl (mX6_against l G F.2.2.2.2 x1 x2 x3 ((2 : Int32) * x4) _ _ _ hc_15) gX6_days_X6_against rfl hdX6_against rfl rfl rfl ⟨Nat.le_of_ble_eq_true rfl, Nat.le_of_ble_eq_true rfl⟩ (by decide) rfl rfl rfl (Nat.le_of_ble_eq_true rfl) ⟨Nat.le_of_ble_eq_true rfl, Nat.le_of_ble_eq_true rfl⟩ dX6_days_53 (fun H locs hP hS => ?_)
          refine lv_istore (lv' := [(6, .int r_16), (0, .ref (ga G 31)), (1, .int x1), (2, .int x2), (3, .int x3), (4, .int x4), (5, .int x5)]) F.1.1 F.1.2.1 dX6_days_56 hl (by decide) rfl (fun ls hl => ?_)
          refine lv_iload F.1.1 F.1.2.1 dX6_days_58 (lv_at hl 0 rfl) ?_
          refine jz_eq (tgt := 70) F dX6_days_60 (by decide) hf (fun hf => ?_) (fun hf => ?_)
          · refine lv_aload_n F.1.1 F.1.2.1 dX6_days_70 rfl (lv_at hl 1 rfl) ?_
            refine gt_6_5 F hP 31 rfl inX6_days_6 kX6_days_56 dX6_days_71 ?_
            refine jz_ne (tgt := 80) F dX6_days_74 (by decide) hf (fun hf => ?_) (fun hf => ?_)
            · refine lv_bipush (v := (60 : Int32)) F.1.1 F.1.2.1 dX6_days_80 (by decide) ?_
              refine lv_iload_n F.1.1 F.1.2.1 dX6_days_82 rfl (lv_at hl 2 rfl) ?_
              refine lv_imul F.1.1 F.1.2.1 dX6_days_83 ?_
              refine lv_iload_n F.1.1 F.1.2.1 dX6_days_84 rfl (lv_at hl 4 rfl) ?_
              refine lv_iadd F.1.1 F.1.2.1 dX6_days_85 ?_
              refine top_i hf (fun y_17 hf => ?_)
              refine lv_istore (lv' := [(7, .int y_17), (6, .int r_16), (0, .ref (ga G 31)), (1, .int x1), (2, .int x2), (3, .int x3), (4, .int x4), (5, .int x5)]) F.1.1 F.1.2.1 dX6_days_86 hl (by decide) rfl (fun ls hl => ?_)
              refine lv_iconst (v := (0 : Int32)) F.1.1 F.1.2.1 dX6_days_88 (by decide) ?_
              refine lv_istore (lv' := [(8, .int (0 : Int32)), (7, .int y_17), (6, .int r_16), (0, .ref (ga G 31)), (1, .int x1), (2, .int x2), (3, .int x3), (4, .int x4), (5, .int x5)]) F.1.1 F.1.2.1 dX6_days_89 hl (by decide) rfl (fun ls hl => ?_)
              exact lX6_days_L91 l G F x4 x5 y_17 _ _ FU (0 : Int32) μ_14 H locs ls hP hS (lv_sub hl [3, 7, 8, 1, 0] rfl) hf
            · refine lv_bipush (v := (-3 : Int32)) F.1.1 F.1.2.1 dX6_days_77 (by decide) ?_
              exact retI F hP hS dX6_days_79 hf
          · refine lv_aload_n F.1.1 F.1.2.1 dX6_days_63 rfl (lv_at hl 1 rfl) ?_
            refine lv_iload F.1.1 F.1.2.1 dX6_days_64 (lv_at hl 0 rfl) ?_
            obtain ⟨r_20, μ_18, hc_19, hf⟩ := bnd_some hf
            refine rV1 (R := rmX6_days) (As := [.int r_16]) (rest := []) F hP hS hl (mX6_fails l G F.2.2.2.2 r_16 _ _ _ hc_19) gX6_days_X6_fails rfl hdX6_fails rfl rfl rfl ⟨Nat.le_of_ble_eq_true rfl, Nat.le_of_ble_eq_true rfl⟩ (by decide) rfl rfl rfl (Nat.le_of_ble_eq_true rfl) ⟨Nat.le_of_ble_eq_true rfl, Nat.le_of_ble_eq_true rfl⟩ dX6_days_66 (fun H locs hP hS => ?_)
            exact retI F hP hS dX6_days_69 hf
        · refine lv_bipush (v := (-2 : Int32)) F.1.1 F.1.2.1 dX6_days_42 (by decide) ?_
          exact retI F hP hS dX6_days_44 hf
  · refine lv_iconst (v := (-1 : Int32)) F.1.1 F.1.2.1 dX6_days_12 (by decide) ?_
    exact retI F hP hS dX6_days_13 hf
abbrev rmX6_needs : Room := { frames := 3, cells := 0, slots := 0, locals := 74 }
theorem hdX6_needs : yX6_needs.cls = RX6 ∧ yX6_needs.cls ≠ "java/lang/invoke/MethodHandle" ∧ yX6_needs.cls ≠ "java/lang/invoke/VarHandle" ∧ (parseMethodDescriptor yX6_needs.desc).map (fun d => d.parameters.length) = some 1 := by decide +kernel
theorem kX6_needs_92 : Cond.fieldLink RX6 92 "PaperLayersModel" "dampNow" "I" ∈ wsX6_needs := List.mem_cons_of_mem _ (List.mem_append_left _ (List.mem_append_left _ (List.mem_of_getElem? (i := 0) rfl)))
theorem inX6_needs_6 : ∀ w ∈ wsX60, w ∈ wsX6_needs := fun _ h => List.mem_cons_of_mem _ (List.mem_append_right _ (h))
set_option maxHeartbeats 4000000 in
set_option maxRecDepth 100000 in
theorem lX6_needs_L16 (l : Launch) (G : GT) {p : Program} {e : Env} {s : State} {m : MethodId} {args : Array Value} {below : List Frame} {meth : Method} {c : Code} (F : Fx p s m args meth c cX6_needs 3 wsX6_needs RX6 (some .int) G) (x1 : Int32) (r : Int32) (μ' : Mem) : ∀ (fuel : Nat), ∀ (x2 : Int32) (μ : Mem) (H : Heap) (locs : List Loc) (ls : Array Slot), Hh G μ H → va_S (gA G) s.heap H locs → lv_has ls 3 [(0, .ref (ga G 31)), (1, .int x1), (2, .int x2)] → fX6_needs_L16 x1 fuel x2 μ = some (r, μ') → W p l e rmX6_needs s m args below meth c H locs 0 0 (MQ below (Qg G (some (.int r)) μ') args s 0 0 (gA G)) (F0 m 16 ls []) := by
  intro fuel
  induction fuel with
  | zero =>
    intro x2 μ H locs ls hP hS hl hf
    exact absurd hf (by intro h; cases h)
  | succ fuel ih16 =>
    intro x2 μ H locs ls hP hS hl hf
    have hf : sX6_needs_L16 (fX6_needs_L16 x1 fuel) x1 x2 μ = some (r, μ') := hf
    unfold sX6_needs_L16 at hf
    refine lv_iload_n F.1.1 F.1.2.1 dX6_needs_16 rfl (lv_at hl 2 rfl) ?_
    refine lv_bipush (v := (20 : Int32)) F.1.1 F.1.2.1 dX6_needs_17 (by decide) ?_
    refine jc_gt (tgt := 47) F dX6_needs_19 (by decide) hf (fun hf => ?_) (fun hf => ?_)
    · refine lv_bipush (v := (-9 : Int32)) F.1.1 F.1.2.1 dX6_needs_47 (by decide) ?_
      exact retI F hP hS dX6_needs_49 hf
    · refine lv_aload_n F.1.1 F.1.2.1 dX6_needs_22 rfl (lv_at hl 0 rfl) ?_
      refine lv_iload_n F.1.1 F.1.2.1 dX6_needs_23 rfl (lv_at hl 2 rfl) ?_
      refine lv_aload_n F.1.1 F.1.2.1 dX6_needs_24 rfl (lv_at hl 0 rfl) ?_
      refine gt_6_7 F hP 31 rfl inX6_needs_6 kX6_needs_92 dX6_needs_25 ?_
      refine lv_iconst (v := (0 : Int32)) F.1.1 F.1.2.1 dX6_needs_28 (by decide) ?_
      obtain ⟨r_9, μ_7, hc_8, hf⟩ := bnd_some hf
      refine rV1 (R := rmX6_needs) (As := [.int x2, .int (μ 31 7), .int (0 : Int32)]) (rest := []) F hP hS hl (mX6_heardBy l G F.2.2.2.2 x2 (μ 31 7) (0 : Int32) _ _ _ hc_8) gX6_needs_X6_heardBy rfl hdX6_heardBy rfl rfl rfl ⟨Nat.le_of_ble_eq_true rfl, Nat.le_of_ble_eq_true rfl⟩ (by decide) rfl rfl rfl (Nat.le_of_ble_eq_true rfl) ⟨Nat.le_of_ble_eq_true rfl, Nat.le_of_ble_eq_true rfl⟩ dX6_needs_29 (fun H locs hP hS => ?_)
      refine lv_iload_n F.1.1 F.1.2.1 dX6_needs_32 rfl (lv_at hl 1 rfl) ?_
      obtain ⟨r_12, μ_10, hc_11, hf⟩ := bnd_some hf
      refine rS1 (R := rmX6_needs) (As := [.int r_9, .int x1]) (rest := []) F hP hS hl (mX6_isOf l G F.2.2.2.2 r_9 x1 _ _ _ hc_11) gX6_needs_X6_isOf hdX6_isOf rfl rfl rfl ⟨Nat.le_of_ble_eq_true rfl, Nat.le_of_ble_eq_true rfl⟩ rfl rfl (Nat.le_of_ble_eq_true rfl) ⟨Nat.le_of_ble_eq_true rfl, Nat.le_of_ble_eq_true rfl⟩ dX6_needs_33 (fun H locs hP hS => ?_)
      refine jz_eq (tgt := 41) F dX6_needs_36 (by decide) hf (fun hf => ?_) (fun hf => ?_)
      · refine top_n hf (fun y_13 ey_13 hf => ?_)
        refine lv_iinc (v := y_13) (lv' := [(2, .int y_13), (0, .ref (ga G 31)), (1, .int x1)]) F.1.1 F.1.2.1 dX6_needs_41 hl (k := 2) rfl ey_13 (by decide) rfl (fun ls hl => ?_)
        refine lv_goto (tgt := 16) F.1.1 F.1.2.1 dX6_needs_44 (by decide) ?_
        exact ih16 y_13 μ_10 H locs ls hP hS (lv_sub hl [1, 2, 0] rfl) hf
      · refine lv_iload_n F.1.1 F.1.2.1 dX6_needs_39 rfl (lv_at hl 2 rfl) ?_
        exact retI F hP hS dX6_needs_40 hf
set_option maxHeartbeats 4000000 in
set_option maxRecDepth 100000 in
theorem mX6_needs (l : Launch) (G : GT) (hG : GD G) (x1 : Int32) (μ : Mem) (r : Int32) (μ' : Mem) (hf : fX6_needs x1 μ = some (r, μ')) : Ct l yX6_needs wsX6_needs rmX6_needs G [.ref (ga G 31), .int x1] μ (some (.int r)) μ' := by
  refine Ct.of (cc := cX6_needs) (maxL := 3) (ret := (some .int)) (own := RX6) hG (by decide) rfl rfl (Nat.le_of_ble_eq_true rfl) ?_
  intro p e s m args below meth c ls H locs F hl hP hS
  have hl : lv_has ls 3 [(0, .ref (ga G 31)), (1, .int x1)] := hl
  unfold fX6_needs at hf
  refine lv_aload_n F.1.1 F.1.2.1 dX6_needs_0 rfl (lv_at hl 0 rfl) ?_
  refine lv_iload_n F.1.1 F.1.2.1 dX6_needs_1 rfl (lv_at hl 1 rfl) ?_
  obtain ⟨r_3, μ_1, hc_2, hf⟩ := bnd_some hf
  refine rV1 (R := rmX6_needs) (As := [.int x1]) (rest := []) F hP hS hl (mX6_isLayer l G F.2.2.2.2 x1 _ _ _ hc_2) gX6_needs_X6_isLayer rfl hdX6_isLayer rfl rfl rfl ⟨Nat.le_of_ble_eq_true rfl, Nat.le_of_ble_eq_true rfl⟩ (by decide) rfl rfl rfl (Nat.le_of_ble_eq_true rfl) ⟨Nat.le_of_ble_eq_true rfl, Nat.le_of_ble_eq_true rfl⟩ dX6_needs_2 (fun H locs hP hS => ?_)
  refine jz_ne (tgt := 10) F dX6_needs_5 (by decide) hf (fun hf => ?_) (fun hf => ?_)
  · refine lv_aload_n F.1.1 F.1.2.1 dX6_needs_10 rfl (lv_at hl 0 rfl) ?_
    obtain ⟨u_6, μ_4, hc_5, hf⟩ := bnd_some hf
    refine rVv (R := rmX6_needs) (As := []) (rest := []) F hP hS hl (mX6_orderAsIs l G F.2.2.2.2  _ _ _ hc_5) gX6_needs_X6_orderAsIs rfl hdX6_orderAsIs rfl rfl rfl ⟨Nat.le_of_ble_eq_true rfl, Nat.le_of_ble_eq_true rfl⟩ (by decide) rfl rfl rfl (Nat.le_of_ble_eq_true rfl) ⟨Nat.le_of_ble_eq_true rfl, Nat.le_of_ble_eq_true rfl⟩ dX6_needs_11 (fun H locs hP hS => ?_)
    refine lv_iconst (v := (0 : Int32)) F.1.1 F.1.2.1 dX6_needs_14 (by decide) ?_
    refine lv_istore_n (lv' := [(2, .int (0 : Int32)), (0, .ref (ga G 31)), (1, .int x1)]) F.1.1 F.1.2.1 dX6_needs_15 rfl hl (by decide) rfl (fun ls hl => ?_)
    exact lX6_needs_L16 l G F x1 _ _ FU (0 : Int32) μ_4 H locs ls hP hS (lv_sub hl [1, 2, 0] rfl) hf
  · refine lv_iconst (v := (-1 : Int32)) F.1.1 F.1.2.1 dX6_needs_8 (by decide) ?_
    exact retI F hP hS dX6_needs_9 hf
abbrev rmX6_gets : Room := { frames := 4, cells := 0, slots := 0, locals := 102 }
theorem hdX6_gets : yX6_gets.cls = RX6 ∧ yX6_gets.cls ≠ "java/lang/invoke/MethodHandle" ∧ yX6_gets.cls ≠ "java/lang/invoke/VarHandle" ∧ (parseMethodDescriptor yX6_gets.desc).map (fun d => d.parameters.length) = some 1 := by decide +kernel
theorem kX6_gets_56 : Cond.fieldLink RX6 56 "PaperLayersModel" "layers" "I" ∈ wsX6_gets := List.mem_cons_of_mem _ (List.mem_append_left _ (List.mem_append_left _ (List.mem_of_getElem? (i := 0) rfl)))
theorem kX6_gets_92 : Cond.fieldLink RX6 92 "PaperLayersModel" "dampNow" "I" ∈ wsX6_gets := List.mem_cons_of_mem _ (List.mem_append_left _ (List.mem_append_left _ (List.mem_of_getElem? (i := 1) rfl)))
theorem inX6_gets_6 : ∀ w ∈ wsX60, w ∈ wsX6_gets := fun _ h => List.mem_cons_of_mem _ (List.mem_append_right _ (h))
set_option maxHeartbeats 4000000 in
set_option maxRecDepth 100000 in
theorem lX6_gets_L26 (l : Launch) (G : GT) {p : Program} {e : Env} {s : State} {m : MethodId} {args : Array Value} {below : List Frame} {meth : Method} {c : Code} (F : Fx p s m args meth c cX6_gets 3 wsX6_gets RX6 (some .int) G) (x1 : Int32) (r : Int32) (μ' : Mem) : ∀ (fuel : Nat), ∀ (x2 : Int32) (μ : Mem) (H : Heap) (locs : List Loc) (ls : Array Slot), Hh G μ H → va_S (gA G) s.heap H locs → lv_has ls 3 [(0, .ref (ga G 31)), (1, .int x1), (2, .int x2)] → fX6_gets_L26 x1 fuel x2 μ = some (r, μ') → W p l e rmX6_gets s m args below meth c H locs 0 0 (MQ below (Qg G (some (.int r)) μ') args s 0 0 (gA G)) (F0 m 26 ls []) := by
  intro fuel
  induction fuel with
  | zero =>
    intro x2 μ H locs ls hP hS hl hf
    exact absurd hf (by intro h; cases h)
  | succ fuel ih26 =>
    intro x2 μ H locs ls hP hS hl hf
    have hf : sX6_gets_L26 (fX6_gets_L26 x1 fuel) x1 x2 μ = some (r, μ') := hf
    unfold sX6_gets_L26 at hf
    refine lv_iload_n F.1.1 F.1.2.1 dX6_gets_26 rfl (lv_at hl 2 rfl) ?_
    refine lv_bipush (v := (20 : Int32)) F.1.1 F.1.2.1 dX6_gets_27 (by decide) ?_
    refine jc_gt (tgt := 54) F dX6_gets_29 (by decide) hf (fun hf => ?_) (fun hf => ?_)
    · refine lv_bipush (v := (-9 : Int32)) F.1.1 F.1.2.1 dX6_gets_54 (by decide) ?_
      exact retI F hP hS dX6_gets_56 hf
    · refine lv_aload_n F.1.1 F.1.2.1 dX6_gets_32 rfl (lv_at hl 0 rfl) ?_
      refine lv_iload_n F.1.1 F.1.2.1 dX6_gets_33 rfl (lv_at hl 2 rfl) ?_
      refine lv_aload_n F.1.1 F.1.2.1 dX6_gets_34 rfl (lv_at hl 0 rfl) ?_
      refine gt_6_7 F hP 31 rfl inX6_gets_6 kX6_gets_92 dX6_gets_35 ?_
      refine lv_iconst (v := (0 : Int32)) F.1.1 F.1.2.1 dX6_gets_38 (by decide) ?_
      obtain ⟨r_9, μ_7, hc_8, hf⟩ := bnd_some hf
      refine rV1 (R := rmX6_gets) (As := [.int x2, .int (μ 31 7), .int (0 : Int32)]) (rest := []) F hP hS hl (mX6_counselBy l G F.2.2.2.2 x2 (μ 31 7) (0 : Int32) _ _ _ hc_8) gX6_gets_X6_counselBy rfl hdX6_counselBy rfl rfl rfl ⟨Nat.le_of_ble_eq_true rfl, Nat.le_of_ble_eq_true rfl⟩ (by decide) rfl rfl rfl (Nat.le_of_ble_eq_true rfl) ⟨Nat.le_of_ble_eq_true rfl, Nat.le_of_ble_eq_true rfl⟩ dX6_gets_39 (fun H locs hP hS => ?_)
      refine lv_iload_n F.1.1 F.1.2.1 dX6_gets_42 rfl (lv_at hl 1 rfl) ?_
      refine jc_ne (tgt := 48) F dX6_gets_43 (by decide) hf (fun hf => ?_) (fun hf => ?_)
      · refine top_n hf (fun y_10 ey_10 hf => ?_)
        refine lv_iinc (v := y_10) (lv' := [(2, .int y_10), (0, .ref (ga G 31)), (1, .int x1)]) F.1.1 F.1.2.1 dX6_gets_48 hl (k := 2) rfl ey_10 (by decide) rfl (fun ls hl => ?_)
        refine lv_goto (tgt := 26) F.1.1 F.1.2.1 dX6_gets_51 (by decide) ?_
        exact ih26 y_10 μ_7 H locs ls hP hS (lv_sub hl [1, 2, 0] rfl) hf
      · refine lv_iload_n F.1.1 F.1.2.1 dX6_gets_46 rfl (lv_at hl 2 rfl) ?_
        exact retI F hP hS dX6_gets_47 hf
set_option maxHeartbeats 4000000 in
set_option maxRecDepth 100000 in
theorem mX6_gets (l : Launch) (G : GT) (hG : GD G) (x1 : Int32) (μ : Mem) (r : Int32) (μ' : Mem) (hf : fX6_gets x1 μ = some (r, μ')) : Ct l yX6_gets wsX6_gets rmX6_gets G [.ref (ga G 31), .int x1] μ (some (.int r)) μ' := by
  refine Ct.of (cc := cX6_gets) (maxL := 3) (ret := (some .int)) (own := RX6) hG (by decide) rfl rfl (Nat.le_of_ble_eq_true rfl) ?_
  intro p e s m args below meth c ls H locs F hl hP hS
  have hl : lv_has ls 3 [(0, .ref (ga G 31)), (1, .int x1)] := hl
  unfold fX6_gets at hf
  refine lv_iload_n F.1.1 F.1.2.1 dX6_gets_0 rfl (lv_at hl 1 rfl) ?_
  obtain ⟨r_3, μ_1, hc_2, hf⟩ := bnd_some hf
  refine rS1 (R := rmX6_gets) (As := [.int x1]) (rest := []) F hP hS hl (mX6_isDigit l G F.2.2.2.2 x1 _ _ _ hc_2) gX6_gets_X6_isDigit hdX6_isDigit rfl rfl rfl ⟨Nat.le_of_ble_eq_true rfl, Nat.le_of_ble_eq_true rfl⟩ rfl rfl (Nat.le_of_ble_eq_true rfl) ⟨Nat.le_of_ble_eq_true rfl, Nat.le_of_ble_eq_true rfl⟩ dX6_gets_1 (fun H locs hP hS => ?_)
  refine jz_ne (tgt := 10) F dX6_gets_4 (by decide) hf (fun hf => ?_) (fun hf => ?_)
  · refine lv_aload_n F.1.1 F.1.2.1 dX6_gets_10 rfl (lv_at hl 0 rfl) ?_
    refine gt_6_5 F hP 31 rfl inX6_gets_6 kX6_gets_56 dX6_gets_11 ?_
    refine jz_ne (tgt := 20) F dX6_gets_14 (by decide) hf (fun hf => ?_) (fun hf => ?_)
    · refine lv_aload_n F.1.1 F.1.2.1 dX6_gets_20 rfl (lv_at hl 0 rfl) ?_
      obtain ⟨u_6, μ_4, hc_5, hf⟩ := bnd_some hf
      refine rVv (R := rmX6_gets) (As := []) (rest := []) F hP hS hl (mX6_orderAsIs l G F.2.2.2.2  _ _ _ hc_5) gX6_gets_X6_orderAsIs rfl hdX6_orderAsIs rfl rfl rfl ⟨Nat.le_of_ble_eq_true rfl, Nat.le_of_ble_eq_true rfl⟩ (by decide) rfl rfl rfl (Nat.le_of_ble_eq_true rfl) ⟨Nat.le_of_ble_eq_true rfl, Nat.le_of_ble_eq_true rfl⟩ dX6_gets_21 (fun H locs hP hS => ?_)
      refine lv_iconst (v := (0 : Int32)) F.1.1 F.1.2.1 dX6_gets_24 (by decide) ?_
      refine lv_istore_n (lv' := [(2, .int (0 : Int32)), (0, .ref (ga G 31)), (1, .int x1)]) F.1.1 F.1.2.1 dX6_gets_25 rfl hl (by decide) rfl (fun ls hl => ?_)
      exact lX6_gets_L26 l G F x1 _ _ FU (0 : Int32) μ_4 H locs ls hP hS (lv_sub hl [1, 2, 0] rfl) hf
    · refine lv_bipush (v := (-3 : Int32)) F.1.1 F.1.2.1 dX6_gets_17 (by decide) ?_
      exact retI F hP hS dX6_gets_19 hf
  · refine lv_bipush (v := (-2 : Int32)) F.1.1 F.1.2.1 dX6_gets_7 (by decide) ?_
    exact retI F hP hS dX6_gets_9 hf
abbrev rmX6_without : Room := { frames := 4, cells := 0, slots := 0, locals := 102 }
theorem hdX6_without : yX6_without.cls = RX6 ∧ yX6_without.cls ≠ "java/lang/invoke/MethodHandle" ∧ yX6_without.cls ≠ "java/lang/invoke/VarHandle" ∧ (parseMethodDescriptor yX6_without.desc).map (fun d => d.parameters.length) = some 1 := by decide +kernel
theorem kX6_without_56 : Cond.fieldLink RX6 56 "PaperLayersModel" "layers" "I" ∈ wsX6_without := List.mem_cons_of_mem _ (List.mem_append_left _ (List.mem_append_left _ (List.mem_of_getElem? (i := 0) rfl)))
theorem kX6_without_86 : Cond.fieldLink RX6 86 "PaperLayersModel" "warmNow" "I" ∈ wsX6_without := List.mem_cons_of_mem _ (List.mem_append_left _ (List.mem_append_left _ (List.mem_of_getElem? (i := 1) rfl)))
theorem kX6_without_92 : Cond.fieldLink RX6 92 "PaperLayersModel" "dampNow" "I" ∈ wsX6_without := List.mem_cons_of_mem _ (List.mem_append_left _ (List.mem_append_left _ (List.mem_of_getElem? (i := 2) rfl)))
theorem inX6_without_6 : ∀ w ∈ wsX60, w ∈ wsX6_without := fun _ h => List.mem_cons_of_mem _ (List.mem_append_right _ (h))
set_option maxHeartbeats 4000000 in
set_option maxRecDepth 100000 in
theorem lX6_without_L29 (l : Launch) (G : GT) {p : Program} {e : Env} {s : State} {m : MethodId} {args : Array Value} {below : List Frame} {meth : Method} {c : Code} (F : Fx p s m args meth c cX6_without 5 wsX6_without RX6 (some .int) G) (x1 : Int32) (r : Int32) (μ' : Mem) : ∀ (fuel : Nat), ∀ (x2 : Int32) (x3 : Int32) (μ : Mem) (H : Heap) (locs : List Loc) (ls : Array Slot), Hh G μ H → va_S (gA G) s.heap H locs → lv_has ls 5 [(0, .ref (ga G 31)), (1, .int x1), (2, .int x2), (3, .int x3)] → fX6_without_L29 x1 fuel x2 x3 μ = some (r, μ') → W p l e rmX6_without s m args below meth c H locs 0 0 (MQ below (Qg G (some (.int r)) μ') args s 0 0 (gA G)) (F0 m 29 ls []) := by
  intro fuel
  induction fuel with
  | zero =>
    intro x2 x3 μ H locs ls hP hS hl hf
    exact absurd hf (by intro h; cases h)
  | succ fuel ih29 =>
    intro x2 x3 μ H locs ls hP hS hl hf
    have hf : sX6_without_L29 (fX6_without_L29 x1 fuel) x1 x2 x3 μ = some (r, μ') := hf
    unfold sX6_without_L29 at hf
    refine lv_iload_n F.1.1 F.1.2.1 dX6_without_29 rfl (lv_at hl 3 rfl) ?_
    refine lv_iconst (v := (1 : Int32)) F.1.1 F.1.2.1 dX6_without_30 (by decide) ?_
    refine lv_aload_n F.1.1 F.1.2.1 dX6_without_31 rfl (lv_at hl 0 rfl) ?_
    refine gt_6_5 F hP 31 rfl inX6_without_6 kX6_without_56 dX6_without_32 ?_
    refine lv_ishl F.1.1 F.1.2.1 dX6_without_35 ?_
    refine jc_ge (tgt := 93) F dX6_without_36 (by decide) hf (fun hf => ?_) (fun hf => ?_)
    · refine lv_iload_n F.1.1 F.1.2.1 dX6_without_93 rfl (lv_at hl 2 rfl) ?_
      exact retI F hP hS dX6_without_94 hf
    · refine lv_iload_n F.1.1 F.1.2.1 dX6_without_39 rfl (lv_at hl 2 rfl) ?_
      refine lv_bipush (v := (-9 : Int32)) F.1.1 F.1.2.1 dX6_without_40 (by decide) ?_
      refine jc_eq (tgt := 56) F dX6_without_42 (by decide) hf (fun hf => ?_) (fun hf => ?_)
      · refine lv_iconst (v := (1 : Int32)) F.1.1 F.1.2.1 dX6_without_56 (by decide) ?_
        refine lv_goto (tgt := 61) F.1.1 F.1.2.1 dX6_without_57 (by decide) ?_
        refine lv_istore (lv' := [(4, .int (1 : Int32)), (0, .ref (ga G 31)), (1, .int x1), (2, .int x2), (3, .int x3)]) F.1.1 F.1.2.1 dX6_without_61 hl (by decide) rfl (fun ls hl => ?_)
        refine lv_iload F.1.1 F.1.2.1 dX6_without_63 (lv_at hl 0 rfl) ?_
        refine lv_if_eq (tgt := 87) F.1.1 F.1.2.1 dX6_without_65 (by decide) (fun h => absurd h (by decide)) (fun _ => ?_)
        refine lv_aload_n F.1.1 F.1.2.1 dX6_without_68 rfl (lv_at hl 1 rfl) ?_
        refine lv_aload_n F.1.1 F.1.2.1 dX6_without_69 rfl (lv_at hl 1 rfl) ?_
        refine gt_6_6 F hP 31 rfl inX6_without_6 kX6_without_86 dX6_without_70 ?_
        refine lv_aload_n F.1.1 F.1.2.1 dX6_without_73 rfl (lv_at hl 1 rfl) ?_
        refine gt_6_7 F hP 31 rfl inX6_without_6 kX6_without_92 dX6_without_74 ?_
        refine lv_iload_n F.1.1 F.1.2.1 dX6_without_77 rfl (lv_at hl 4 rfl) ?_
        obtain ⟨r_9, μ_7, hc_8, hf⟩ := bnd_some hf
        refine rV1 (R := rmX6_without) (As := [.int (μ 31 6), .int (μ 31 7), .int x3]) (rest := []) F hP hS hl (mX6_counselBy l G F.2.2.2.2 (μ 31 6) (μ 31 7) x3 _ _ _ hc_8) gX6_without_X6_counselBy rfl hdX6_counselBy rfl rfl rfl ⟨Nat.le_of_ble_eq_true rfl, Nat.le_of_ble_eq_true rfl⟩ (by decide) rfl rfl rfl (Nat.le_of_ble_eq_true rfl) ⟨Nat.le_of_ble_eq_true rfl, Nat.le_of_ble_eq_true rfl⟩ dX6_without_78 (fun H locs hP hS => ?_)
        refine lv_iload_n F.1.1 F.1.2.1 dX6_without_81 rfl (lv_at hl 2 rfl) ?_
        refine jc_ne (tgt := 87) F dX6_without_82 (by decide) hf (fun hf => ?_) (fun hf => ?_)
        · refine top_n hf (fun y_10 ey_10 hf => ?_)
          refine lv_iinc (v := y_10) (lv' := [(3, .int y_10), (4, .int (1 : Int32)), (0, .ref (ga G 31)), (1, .int x1), (2, .int x2)]) F.1.1 F.1.2.1 dX6_without_87 hl (k := 4) rfl ey_10 (by decide) rfl (fun ls hl => ?_)
          refine lv_goto (tgt := 29) F.1.1 F.1.2.1 dX6_without_90 (by decide) ?_
          exact ih29 x2 y_10 μ_7 H locs ls hP hS (lv_sub hl [2, 3, 4, 0] rfl) hf
        · refine lv_iload_n F.1.1 F.1.2.1 dX6_without_85 rfl (lv_at hl 4 rfl) ?_
          refine lv_istore_n (lv' := [(2, .int x3), (4, .int (1 : Int32)), (0, .ref (ga G 31)), (1, .int x1), (3, .int x3)]) F.1.1 F.1.2.1 dX6_without_86 rfl hl (by decide) rfl (fun ls hl => ?_)
          refine top_n hf (fun y_11 ey_11 hf => ?_)
          refine lv_iinc (v := y_11) (lv' := [(3, .int y_11), (2, .int x3), (4, .int (1 : Int32)), (0, .ref (ga G 31)), (1, .int x1)]) F.1.1 F.1.2.1 dX6_without_87 hl (k := 4) rfl ey_11 (by decide) rfl (fun ls hl => ?_)
          refine lv_goto (tgt := 29) F.1.1 F.1.2.1 dX6_without_90 (by decide) ?_
          exact ih29 x3 y_11 μ_7 H locs ls hP hS (lv_sub hl [3, 4, 1, 0] rfl) hf
      · refine lv_iload_n F.1.1 F.1.2.1 dX6_without_45 rfl (lv_at hl 3 rfl) ?_
        obtain ⟨r_14, μ_12, hc_13, hf⟩ := bnd_some hf
        refine rS1 (R := rmX6_without) (As := [.int x3]) (rest := []) F hP hS hl (mX6_size l G F.2.2.2.2 x3 _ _ _ hc_13) gX6_without_X6_size hdX6_size rfl rfl rfl ⟨Nat.le_of_ble_eq_true rfl, Nat.le_of_ble_eq_true rfl⟩ rfl rfl (Nat.le_of_ble_eq_true rfl) ⟨Nat.le_of_ble_eq_true rfl, Nat.le_of_ble_eq_true rfl⟩ dX6_without_46 (fun H locs hP hS => ?_)
        refine lv_iload_n F.1.1 F.1.2.1 dX6_without_49 rfl (lv_at hl 2 rfl) ?_
        obtain ⟨r_17, μ_15, hc_16, hf⟩ := bnd_some hf
        refine rS1 (R := rmX6_without) (As := [.int x2]) (rest := [.int r_14]) F hP hS hl (mX6_size l G F.2.2.2.2 x2 _ _ _ hc_16) gX6_without_X6_size hdX6_size rfl rfl rfl ⟨Nat.le_of_ble_eq_true rfl, Nat.le_of_ble_eq_true rfl⟩ rfl rfl (Nat.le_of_ble_eq_true rfl) ⟨Nat.le_of_ble_eq_true rfl, Nat.le_of_ble_eq_true rfl⟩ dX6_without_50 (fun H locs hP hS => ?_)
        refine jc_ge (tgt := 60) F dX6_without_53 (by decide) hf (fun hf => ?_) (fun hf => ?_)
        · refine lv_iconst (v := (0 : Int32)) F.1.1 F.1.2.1 dX6_without_60 (by decide) ?_
          refine lv_istore (lv' := [(4, .int (0 : Int32)), (0, .ref (ga G 31)), (1, .int x1), (2, .int x2), (3, .int x3)]) F.1.1 F.1.2.1 dX6_without_61 hl (by decide) rfl (fun ls hl => ?_)
          refine lv_iload F.1.1 F.1.2.1 dX6_without_63 (lv_at hl 0 rfl) ?_
          refine lv_if_eq (tgt := 87) F.1.1 F.1.2.1 dX6_without_65 (by decide) (fun _ => ?_) (fun h => absurd (by decide) h)
          refine top_n hf (fun y_18 ey_18 hf => ?_)
          refine lv_iinc (v := y_18) (lv' := [(3, .int y_18), (4, .int (0 : Int32)), (0, .ref (ga G 31)), (1, .int x1), (2, .int x2)]) F.1.1 F.1.2.1 dX6_without_87 hl (k := 4) rfl ey_18 (by decide) rfl (fun ls hl => ?_)
          refine lv_goto (tgt := 29) F.1.1 F.1.2.1 dX6_without_90 (by decide) ?_
          exact ih29 x2 y_18 μ_15 H locs ls hP hS (lv_sub hl [2, 3, 4, 0] rfl) hf
        · refine lv_iconst (v := (1 : Int32)) F.1.1 F.1.2.1 dX6_without_56 (by decide) ?_
          refine lv_goto (tgt := 61) F.1.1 F.1.2.1 dX6_without_57 (by decide) ?_
          refine lv_istore (lv' := [(4, .int (1 : Int32)), (0, .ref (ga G 31)), (1, .int x1), (2, .int x2), (3, .int x3)]) F.1.1 F.1.2.1 dX6_without_61 hl (by decide) rfl (fun ls hl => ?_)
          refine lv_iload F.1.1 F.1.2.1 dX6_without_63 (lv_at hl 0 rfl) ?_
          refine lv_if_eq (tgt := 87) F.1.1 F.1.2.1 dX6_without_65 (by decide) (fun h => absurd h (by decide)) (fun _ => ?_)
          refine lv_aload_n F.1.1 F.1.2.1 dX6_without_68 rfl (lv_at hl 1 rfl) ?_
          refine lv_aload_n F.1.1 F.1.2.1 dX6_without_69 rfl (lv_at hl 1 rfl) ?_
          refine gt_6_6 F hP 31 rfl inX6_without_6 kX6_without_86 dX6_without_70 ?_
          refine lv_aload_n F.1.1 F.1.2.1 dX6_without_73 rfl (lv_at hl 1 rfl) ?_
          refine gt_6_7 F hP 31 rfl inX6_without_6 kX6_without_92 dX6_without_74 ?_
          refine lv_iload_n F.1.1 F.1.2.1 dX6_without_77 rfl (lv_at hl 4 rfl) ?_
          obtain ⟨r_21, μ_19, hc_20, hf⟩ := bnd_some hf
          refine rV1 (R := rmX6_without) (As := [.int (μ_15 31 6), .int (μ_15 31 7), .int x3]) (rest := []) F hP hS hl (mX6_counselBy l G F.2.2.2.2 (μ_15 31 6) (μ_15 31 7) x3 _ _ _ hc_20) gX6_without_X6_counselBy rfl hdX6_counselBy rfl rfl rfl ⟨Nat.le_of_ble_eq_true rfl, Nat.le_of_ble_eq_true rfl⟩ (by decide) rfl rfl rfl (Nat.le_of_ble_eq_true rfl) ⟨Nat.le_of_ble_eq_true rfl, Nat.le_of_ble_eq_true rfl⟩ dX6_without_78 (fun H locs hP hS => ?_)
          refine lv_iload_n F.1.1 F.1.2.1 dX6_without_81 rfl (lv_at hl 2 rfl) ?_
          refine jc_ne (tgt := 87) F dX6_without_82 (by decide) hf (fun hf => ?_) (fun hf => ?_)
          · refine top_n hf (fun y_22 ey_22 hf => ?_)
            refine lv_iinc (v := y_22) (lv' := [(3, .int y_22), (4, .int (1 : Int32)), (0, .ref (ga G 31)), (1, .int x1), (2, .int x2)]) F.1.1 F.1.2.1 dX6_without_87 hl (k := 4) rfl ey_22 (by decide) rfl (fun ls hl => ?_)
            refine lv_goto (tgt := 29) F.1.1 F.1.2.1 dX6_without_90 (by decide) ?_
            exact ih29 x2 y_22 μ_19 H locs ls hP hS (lv_sub hl [2, 3, 4, 0] rfl) hf
          · refine lv_iload_n F.1.1 F.1.2.1 dX6_without_85 rfl (lv_at hl 4 rfl) ?_
            refine lv_istore_n (lv' := [(2, .int x3), (4, .int (1 : Int32)), (0, .ref (ga G 31)), (1, .int x1), (3, .int x3)]) F.1.1 F.1.2.1 dX6_without_86 rfl hl (by decide) rfl (fun ls hl => ?_)
            refine top_n hf (fun y_23 ey_23 hf => ?_)
            refine lv_iinc (v := y_23) (lv' := [(3, .int y_23), (2, .int x3), (4, .int (1 : Int32)), (0, .ref (ga G 31)), (1, .int x1)]) F.1.1 F.1.2.1 dX6_without_87 hl (k := 4) rfl ey_23 (by decide) rfl (fun ls hl => ?_)
            refine lv_goto (tgt := 29) F.1.1 F.1.2.1 dX6_without_90 (by decide) ?_
            exact ih29 x3 y_23 μ_19 H locs ls hP hS (lv_sub hl [3, 4, 1, 0] rfl) hf
set_option maxHeartbeats 4000000 in
set_option maxRecDepth 100000 in
theorem mX6_without (l : Launch) (G : GT) (hG : GD G) (x1 : Int32) (μ : Mem) (r : Int32) (μ' : Mem) (hf : fX6_without x1 μ = some (r, μ')) : Ct l yX6_without wsX6_without rmX6_without G [.ref (ga G 31), .int x1] μ (some (.int r)) μ' := by
  refine Ct.of (cc := cX6_without) (maxL := 5) (ret := (some .int)) (own := RX6) hG (by decide) rfl rfl (Nat.le_of_ble_eq_true rfl) ?_
  intro p e s m args below meth c ls H locs F hl hP hS
  have hl : lv_has ls 5 [(0, .ref (ga G 31)), (1, .int x1)] := hl
  unfold fX6_without at hf
  refine lv_iload_n F.1.1 F.1.2.1 dX6_without_0 rfl (lv_at hl 1 rfl) ?_
  obtain ⟨r_3, μ_1, hc_2, hf⟩ := bnd_some hf
  refine rS1 (R := rmX6_without) (As := [.int x1]) (rest := []) F hP hS hl (mX6_isDigit l G F.2.2.2.2 x1 _ _ _ hc_2) gX6_without_X6_isDigit hdX6_isDigit rfl rfl rfl ⟨Nat.le_of_ble_eq_true rfl, Nat.le_of_ble_eq_true rfl⟩ rfl rfl (Nat.le_of_ble_eq_true rfl) ⟨Nat.le_of_ble_eq_true rfl, Nat.le_of_ble_eq_true rfl⟩ dX6_without_1 (fun H locs hP hS => ?_)
  refine jz_ne (tgt := 10) F dX6_without_4 (by decide) hf (fun hf => ?_) (fun hf => ?_)
  · refine lv_aload_n F.1.1 F.1.2.1 dX6_without_10 rfl (lv_at hl 0 rfl) ?_
    refine gt_6_5 F hP 31 rfl inX6_without_6 kX6_without_56 dX6_without_11 ?_
    refine jz_ne (tgt := 20) F dX6_without_14 (by decide) hf (fun hf => ?_) (fun hf => ?_)
    · refine lv_aload_n F.1.1 F.1.2.1 dX6_without_20 rfl (lv_at hl 0 rfl) ?_
      obtain ⟨u_6, μ_4, hc_5, hf⟩ := bnd_some hf
      refine rVv (R := rmX6_without) (As := []) (rest := []) F hP hS hl (mX6_orderAsIs l G F.2.2.2.2  _ _ _ hc_5) gX6_without_X6_orderAsIs rfl hdX6_orderAsIs rfl rfl rfl ⟨Nat.le_of_ble_eq_true rfl, Nat.le_of_ble_eq_true rfl⟩ (by decide) rfl rfl rfl (Nat.le_of_ble_eq_true rfl) ⟨Nat.le_of_ble_eq_true rfl, Nat.le_of_ble_eq_true rfl⟩ dX6_without_21 (fun H locs hP hS => ?_)
      refine lv_bipush (v := (-9 : Int32)) F.1.1 F.1.2.1 dX6_without_24 (by decide) ?_
      refine lv_istore_n (lv' := [(2, .int (-9 : Int32)), (0, .ref (ga G 31)), (1, .int x1)]) F.1.1 F.1.2.1 dX6_without_26 rfl hl (by decide) rfl (fun ls hl => ?_)
      refine lv_iconst (v := (0 : Int32)) F.1.1 F.1.2.1 dX6_without_27 (by decide) ?_
      refine lv_istore_n (lv' := [(3, .int (0 : Int32)), (2, .int (-9 : Int32)), (0, .ref (ga G 31)), (1, .int x1)]) F.1.1 F.1.2.1 dX6_without_28 rfl hl (by decide) rfl (fun ls hl => ?_)
      exact lX6_without_L29 l G F x1 _ _ FU (-9 : Int32) (0 : Int32) μ_4 H locs ls hP hS (lv_sub hl [2, 3, 1, 0] rfl) hf
    · refine lv_bipush (v := (-3 : Int32)) F.1.1 F.1.2.1 dX6_without_17 (by decide) ?_
      exact retI F hP hS dX6_without_19 hf
  · refine lv_bipush (v := (-2 : Int32)) F.1.1 F.1.2.1 dX6_without_7 (by decide) ?_
    exact retI F hP hS dX6_without_9 hf
abbrev rmX6_reading : Room := { frames := 2, cells := 0, slots := 0, locals := 42 }
theorem hdX6_reading : yX6_reading.cls = RX6 ∧ yX6_reading.cls ≠ "java/lang/invoke/MethodHandle" ∧ yX6_reading.cls ≠ "java/lang/invoke/VarHandle" ∧ (parseMethodDescriptor yX6_reading.desc).map (fun d => d.parameters.length) = some 3 := by decide +kernel
theorem kX6_reading_37 : Cond.fieldLink RX6 37 "PaperLayersModel" "readWarms" "[I" ∈ wsX6_reading := List.mem_cons_of_mem _ (List.mem_append_left _ (List.mem_of_getElem? (i := 2) rfl))
theorem kX6_reading_40 : Cond.fieldLink RX6 40 "PaperLayersModel" "readDamps" "[I" ∈ wsX6_reading := List.mem_cons_of_mem _ (List.mem_append_left _ (List.mem_of_getElem? (i := 3) rfl))
theorem kX6_reading_43 : Cond.fieldLink RX6 43 "PaperLayersModel" "readCounsel" "[I" ∈ wsX6_reading := List.mem_cons_of_mem _ (List.mem_append_left _ (List.mem_of_getElem? (i := 4) rfl))
theorem kX6_reading_56 : Cond.fieldLink RX6 56 "PaperLayersModel" "layers" "I" ∈ wsX6_reading := List.mem_cons_of_mem _ (List.mem_append_left _ (List.mem_of_getElem? (i := 0) rfl))
theorem kX6_reading_98 : Cond.fieldLink RX6 98 "PaperLayersModel" "readings" "I" ∈ wsX6_reading := List.mem_cons_of_mem _ (List.mem_append_left _ (List.mem_of_getElem? (i := 1) rfl))
theorem inX6_reading_6 : ∀ w ∈ wsX60, w ∈ wsX6_reading := fun _ h => List.mem_cons_of_mem _ (List.mem_append_right _ (h))
set_option maxHeartbeats 4000000 in
set_option maxRecDepth 100000 in
theorem mX6_reading (l : Launch) (G : GT) (hG : GD G) (x1 : Int32) (x2 : Int32) (x3 : Int32) (μ : Mem) (r : Int32) (μ' : Mem) (hf : fX6_reading x1 x2 x3 μ = some (r, μ')) : Ct l yX6_reading wsX6_reading rmX6_reading G [.ref (ga G 31), .int x1, .int x2, .int x3] μ (some (.int r)) μ' := by
  refine Ct.of (cc := cX6_reading) (maxL := 4) (ret := (some .int)) (own := RX6) hG (by decide) rfl rfl (Nat.le_of_ble_eq_true rfl) ?_
  intro p e s m args below meth c ls H locs F hl hP hS
  have hl : lv_has ls 4 [(0, .ref (ga G 31)), (1, .int x1), (2, .int x2), (3, .int x3)] := hl
  unfold fX6_reading at hf
  refine lv_iload_n F.1.1 F.1.2.1 dX6_reading_0 rfl (lv_at hl 1 rfl) ?_
  refine lv_iconst (v := (0 : Int32)) F.1.1 F.1.2.1 dX6_reading_1 (by decide) ?_
  refine lv_bipush (v := (20 : Int32)) F.1.1 F.1.2.1 dX6_reading_2 (by decide) ?_
  obtain ⟨r_3, μ_1, hc_2, hf⟩ := bnd_some hf
  refine rS1 (R := rmX6_reading) (As := [.int x1, .int (0 : Int32), .int (20 : Int32)]) (rest := []) F hP hS hl (mX6_within l G F.2.2.2.2 x1 (0 : Int32) (20 : Int32) _ _ _ hc_2) gX6_reading_X6_within hdX6_within rfl rfl rfl ⟨Nat.le_of_ble_eq_true rfl, Nat.le_of_ble_eq_true rfl⟩ rfl rfl (Nat.le_of_ble_eq_true rfl) ⟨Nat.le_of_ble_eq_true rfl, Nat.le_of_ble_eq_true rfl⟩ dX6_reading_4 (fun H locs hP hS => ?_)
  refine jz_eq (tgt := 30) F dX6_reading_7 (by decide) hf (fun hf => ?_) (fun hf => ?_)
  · refine lv_bipush (v := (-2 : Int32)) F.1.1 F.1.2.1 dX6_reading_30 (by decide) ?_
    exact retI F hP hS dX6_reading_32 hf
  · refine lv_iload_n F.1.1 F.1.2.1 dX6_reading_10 rfl (lv_at hl 2 rfl) ?_
    obtain ⟨r_6, μ_4, hc_5, hf⟩ := bnd_some hf
    refine rS1 (R := rmX6_reading) (As := [.int x2]) (rest := []) F hP hS hl (mX6_isDigit l G F.2.2.2.2 x2 _ _ _ hc_5) gX6_reading_X6_isDigit hdX6_isDigit rfl rfl rfl ⟨Nat.le_of_ble_eq_true rfl, Nat.le_of_ble_eq_true rfl⟩ rfl rfl (Nat.le_of_ble_eq_true rfl) ⟨Nat.le_of_ble_eq_true rfl, Nat.le_of_ble_eq_true rfl⟩ dX6_reading_11 (fun H locs hP hS => ?_)
    refine jz_eq (tgt := 30) F dX6_reading_14 (by decide) hf (fun hf => ?_) (fun hf => ?_)
    · refine lv_bipush (v := (-2 : Int32)) F.1.1 F.1.2.1 dX6_reading_30 (by decide) ?_
      exact retI F hP hS dX6_reading_32 hf
    · refine lv_iload_n F.1.1 F.1.2.1 dX6_reading_17 rfl (lv_at hl 3 rfl) ?_
      obtain ⟨r_9, μ_7, hc_8, hf⟩ := bnd_some hf
      refine rS1 (R := rmX6_reading) (As := [.int x3]) (rest := []) F hP hS hl (mX6_isDigit l G F.2.2.2.2 x3 _ _ _ hc_8) gX6_reading_X6_isDigit hdX6_isDigit rfl rfl rfl ⟨Nat.le_of_ble_eq_true rfl, Nat.le_of_ble_eq_true rfl⟩ rfl rfl (Nat.le_of_ble_eq_true rfl) ⟨Nat.le_of_ble_eq_true rfl, Nat.le_of_ble_eq_true rfl⟩ dX6_reading_18 (fun H locs hP hS => ?_)
      refine jz_ne (tgt := 33) F dX6_reading_21 (by decide) hf (fun hf => ?_) (fun hf => ?_)
      · refine lv_aload_n F.1.1 F.1.2.1 dX6_reading_33 rfl (lv_at hl 0 rfl) ?_
        refine gt_6_5 F hP 31 rfl inX6_reading_6 kX6_reading_56 dX6_reading_34 ?_
        refine jz_ne (tgt := 43) F dX6_reading_37 (by decide) hf (fun hf => ?_) (fun hf => ?_)
        · refine lv_aload_n F.1.1 F.1.2.1 dX6_reading_43 rfl (lv_at hl 0 rfl) ?_
          refine gt_6_22 F hP 31 rfl inX6_reading_6 kX6_reading_98 dX6_reading_44 ?_
          refine lv_bipush (v := (8 : Int32)) F.1.1 F.1.2.1 dX6_reading_47 (by decide) ?_
          refine jc_ne (tgt := 55) F dX6_reading_49 (by decide) hf (fun hf => ?_) (fun hf => ?_)
          · refine lv_aload_n F.1.1 F.1.2.1 dX6_reading_55 rfl (lv_at hl 0 rfl) ?_
            refine gt_6_23 F hP 31 rfl inX6_reading_6 kX6_reading_37 dX6_reading_56 ?_
            refine lv_aload_n F.1.1 F.1.2.1 dX6_reading_59 rfl (lv_at hl 0 rfl) ?_
            refine gt_6_22 F hP 31 rfl inX6_reading_6 kX6_reading_98 dX6_reading_60 ?_
            refine lv_iload_n F.1.1 F.1.2.1 dX6_reading_63 rfl (lv_at hl 1 rfl) ?_
            refine r_ias F hP hS 41 rfl rfl dX6_reading_64 hf (fun μ_10 H locs hP hS hf => ?_)
            refine lv_aload_n F.1.1 F.1.2.1 dX6_reading_65 rfl (lv_at hl 0 rfl) ?_
            refine gt_6_24 F hP 31 rfl inX6_reading_6 kX6_reading_40 dX6_reading_66 ?_
            refine lv_aload_n F.1.1 F.1.2.1 dX6_reading_69 rfl (lv_at hl 0 rfl) ?_
            refine gt_6_22 F hP 31 rfl inX6_reading_6 kX6_reading_98 dX6_reading_70 ?_
            refine lv_iload_n F.1.1 F.1.2.1 dX6_reading_73 rfl (lv_at hl 2 rfl) ?_
            refine r_ias F hP hS 42 rfl rfl dX6_reading_74 hf (fun μ_11 H locs hP hS hf => ?_)
            refine lv_aload_n F.1.1 F.1.2.1 dX6_reading_75 rfl (lv_at hl 0 rfl) ?_
            refine gt_6_25 F hP 31 rfl inX6_reading_6 kX6_reading_43 dX6_reading_76 ?_
            refine lv_aload_n F.1.1 F.1.2.1 dX6_reading_79 rfl (lv_at hl 0 rfl) ?_
            refine gt_6_22 F hP 31 rfl inX6_reading_6 kX6_reading_98 dX6_reading_80 ?_
            refine lv_iload_n F.1.1 F.1.2.1 dX6_reading_83 rfl (lv_at hl 3 rfl) ?_
            refine r_ias F hP hS 43 rfl rfl dX6_reading_84 hf (fun μ_12 H locs hP hS hf => ?_)
            refine lv_aload_n F.1.1 F.1.2.1 dX6_reading_85 rfl (lv_at hl 0 rfl) ?_
            refine lv_dup F.1.1 F.1.2.1 dX6_reading_86 rfl ?_
            refine gt_6_22 F hP 31 rfl inX6_reading_6 kX6_reading_98 dX6_reading_87 ?_
            refine lv_iconst (v := (1 : Int32)) F.1.1 F.1.2.1 dX6_reading_90 (by decide) ?_
            refine lv_iadd F.1.1 F.1.2.1 dX6_reading_91 ?_
            refine pt_6_22 F hP hS 31 rfl inX6_reading_6 kX6_reading_98 dX6_reading_92 hf (fun μ_13 H locs hP hS hf => ?_)
            refine lv_aload_n F.1.1 F.1.2.1 dX6_reading_95 rfl (lv_at hl 0 rfl) ?_
            refine gt_6_22 F hP 31 rfl inX6_reading_6 kX6_reading_98 dX6_reading_96 ?_
            refine lv_iconst (v := (1 : Int32)) F.1.1 F.1.2.1 dX6_reading_99 (by decide) ?_
            refine lv_isub F.1.1 F.1.2.1 dX6_reading_100 ?_
            exact retI F hP hS dX6_reading_101 hf
          · refine lv_bipush (v := (-4 : Int32)) F.1.1 F.1.2.1 dX6_reading_52 (by decide) ?_
            exact retI F hP hS dX6_reading_54 hf
        · refine lv_bipush (v := (-3 : Int32)) F.1.1 F.1.2.1 dX6_reading_40 (by decide) ?_
          exact retI F hP hS dX6_reading_42 hf
      · refine lv_iload_n F.1.1 F.1.2.1 dX6_reading_24 rfl (lv_at hl 3 rfl) ?_
        refine lv_bipush (v := (-9 : Int32)) F.1.1 F.1.2.1 dX6_reading_25 (by decide) ?_
        refine jc_eq (tgt := 33) F dX6_reading_27 (by decide) hf (fun hf => ?_) (fun hf => ?_)
        · refine lv_aload_n F.1.1 F.1.2.1 dX6_reading_33 rfl (lv_at hl 0 rfl) ?_
          refine gt_6_5 F hP 31 rfl inX6_reading_6 kX6_reading_56 dX6_reading_34 ?_
          refine jz_ne (tgt := 43) F dX6_reading_37 (by decide) hf (fun hf => ?_) (fun hf => ?_)
          · refine lv_aload_n F.1.1 F.1.2.1 dX6_reading_43 rfl (lv_at hl 0 rfl) ?_
            refine gt_6_22 F hP 31 rfl inX6_reading_6 kX6_reading_98 dX6_reading_44 ?_
            refine lv_bipush (v := (8 : Int32)) F.1.1 F.1.2.1 dX6_reading_47 (by decide) ?_
            refine jc_ne (tgt := 55) F dX6_reading_49 (by decide) hf (fun hf => ?_) (fun hf => ?_)
            · refine lv_aload_n F.1.1 F.1.2.1 dX6_reading_55 rfl (lv_at hl 0 rfl) ?_
              refine gt_6_23 F hP 31 rfl inX6_reading_6 kX6_reading_37 dX6_reading_56 ?_
              refine lv_aload_n F.1.1 F.1.2.1 dX6_reading_59 rfl (lv_at hl 0 rfl) ?_
              refine gt_6_22 F hP 31 rfl inX6_reading_6 kX6_reading_98 dX6_reading_60 ?_
              refine lv_iload_n F.1.1 F.1.2.1 dX6_reading_63 rfl (lv_at hl 1 rfl) ?_
              refine r_ias F hP hS 41 rfl rfl dX6_reading_64 hf (fun μ_14 H locs hP hS hf => ?_)
              refine lv_aload_n F.1.1 F.1.2.1 dX6_reading_65 rfl (lv_at hl 0 rfl) ?_
              refine gt_6_24 F hP 31 rfl inX6_reading_6 kX6_reading_40 dX6_reading_66 ?_
              refine lv_aload_n F.1.1 F.1.2.1 dX6_reading_69 rfl (lv_at hl 0 rfl) ?_
              refine gt_6_22 F hP 31 rfl inX6_reading_6 kX6_reading_98 dX6_reading_70 ?_
              refine lv_iload_n F.1.1 F.1.2.1 dX6_reading_73 rfl (lv_at hl 2 rfl) ?_
              refine r_ias F hP hS 42 rfl rfl dX6_reading_74 hf (fun μ_15 H locs hP hS hf => ?_)
              refine lv_aload_n F.1.1 F.1.2.1 dX6_reading_75 rfl (lv_at hl 0 rfl) ?_
              refine gt_6_25 F hP 31 rfl inX6_reading_6 kX6_reading_43 dX6_reading_76 ?_
              refine lv_aload_n F.1.1 F.1.2.1 dX6_reading_79 rfl (lv_at hl 0 rfl) ?_
              refine gt_6_22 F hP 31 rfl inX6_reading_6 kX6_reading_98 dX6_reading_80 ?_
              refine lv_iload_n F.1.1 F.1.2.1 dX6_reading_83 rfl (lv_at hl 3 rfl) ?_
              refine r_ias F hP hS 43 rfl rfl dX6_reading_84 hf (fun μ_16 H locs hP hS hf => ?_)
              refine lv_aload_n F.1.1 F.1.2.1 dX6_reading_85 rfl (lv_at hl 0 rfl) ?_
              refine lv_dup F.1.1 F.1.2.1 dX6_reading_86 rfl ?_
              refine gt_6_22 F hP 31 rfl inX6_reading_6 kX6_reading_98 dX6_reading_87 ?_
              refine lv_iconst (v := (1 : Int32)) F.1.1 F.1.2.1 dX6_reading_90 (by decide) ?_
              refine lv_iadd F.1.1 F.1.2.1 dX6_reading_91 ?_
              refine pt_6_22 F hP hS 31 rfl inX6_reading_6 kX6_reading_98 dX6_reading_92 hf (fun μ_17 H locs hP hS hf => ?_)
              refine lv_aload_n F.1.1 F.1.2.1 dX6_reading_95 rfl (lv_at hl 0 rfl) ?_
              refine gt_6_22 F hP 31 rfl inX6_reading_6 kX6_reading_98 dX6_reading_96 ?_
              refine lv_iconst (v := (1 : Int32)) F.1.1 F.1.2.1 dX6_reading_99 (by decide) ?_
              refine lv_isub F.1.1 F.1.2.1 dX6_reading_100 ?_
              exact retI F hP hS dX6_reading_101 hf
            · refine lv_bipush (v := (-4 : Int32)) F.1.1 F.1.2.1 dX6_reading_52 (by decide) ?_
              exact retI F hP hS dX6_reading_54 hf
          · refine lv_bipush (v := (-3 : Int32)) F.1.1 F.1.2.1 dX6_reading_40 (by decide) ?_
            exact retI F hP hS dX6_reading_42 hf
        · refine lv_bipush (v := (-2 : Int32)) F.1.1 F.1.2.1 dX6_reading_30 (by decide) ?_
          exact retI F hP hS dX6_reading_32 hf
abbrev rmX6_back : Room := { frames := 1, cells := 0, slots := 0, locals := 22 }
theorem hdX6_back : yX6_back.cls = RX6 ∧ yX6_back.cls ≠ "java/lang/invoke/MethodHandle" ∧ yX6_back.cls ≠ "java/lang/invoke/VarHandle" ∧ (parseMethodDescriptor yX6_back.desc).map (fun d => d.parameters.length) = some 1 := by decide +kernel
theorem kX6_back_98 : Cond.fieldLink RX6 98 "PaperLayersModel" "readings" "I" ∈ wsX6_back := List.mem_cons_of_mem _ (List.mem_append_left _ (List.mem_of_getElem? (i := 0) rfl))
theorem inX6_back_6 : ∀ w ∈ wsX60, w ∈ wsX6_back := fun _ h => List.mem_cons_of_mem _ (List.mem_append_right _ (h))
set_option maxHeartbeats 4000000 in
set_option maxRecDepth 100000 in
theorem mX6_back (l : Launch) (G : GT) (hG : GD G) (x1 : Int32) (μ : Mem) (r : Int32) (μ' : Mem) (hf : fX6_back x1 μ = some (r, μ')) : Ct l yX6_back wsX6_back rmX6_back G [.ref (ga G 31), .int x1] μ (some (.int r)) μ' := by
  refine Ct.of (cc := cX6_back) (maxL := 2) (ret := (some .int)) (own := RX6) hG (by decide) rfl rfl (Nat.le_of_ble_eq_true rfl) ?_
  intro p e s m args below meth c ls H locs F hl hP hS
  have hl : lv_has ls 2 [(0, .ref (ga G 31)), (1, .int x1)] := hl
  unfold fX6_back at hf
  refine lv_iload_n F.1.1 F.1.2.1 dX6_back_0 rfl (lv_at hl 1 rfl) ?_
  refine lv_iconst (v := (0 : Int32)) F.1.1 F.1.2.1 dX6_back_1 (by decide) ?_
  refine lv_aload_n F.1.1 F.1.2.1 dX6_back_2 rfl (lv_at hl 0 rfl) ?_
  refine gt_6_22 F hP 31 rfl inX6_back_6 kX6_back_98 dX6_back_3 ?_
  obtain ⟨r_3, μ_1, hc_2, hf⟩ := bnd_some hf
  refine rS1 (R := rmX6_back) (As := [.int x1, .int (0 : Int32), .int (μ 31 22)]) (rest := []) F hP hS hl (mX6_within l G F.2.2.2.2 x1 (0 : Int32) (μ 31 22) _ _ _ hc_2) gX6_back_X6_within hdX6_within rfl rfl rfl ⟨Nat.le_of_ble_eq_true rfl, Nat.le_of_ble_eq_true rfl⟩ rfl rfl (Nat.le_of_ble_eq_true rfl) ⟨Nat.le_of_ble_eq_true rfl, Nat.le_of_ble_eq_true rfl⟩ dX6_back_6 (fun H locs hP hS => ?_)
  refine jz_ne (tgt := 15) F dX6_back_9 (by decide) hf (fun hf => ?_) (fun hf => ?_)
  · refine lv_aload_n F.1.1 F.1.2.1 dX6_back_15 rfl (lv_at hl 0 rfl) ?_
    refine lv_dup F.1.1 F.1.2.1 dX6_back_16 rfl ?_
    refine gt_6_22 F hP 31 rfl inX6_back_6 kX6_back_98 dX6_back_17 ?_
    refine lv_iload_n F.1.1 F.1.2.1 dX6_back_20 rfl (lv_at hl 1 rfl) ?_
    refine lv_isub F.1.1 F.1.2.1 dX6_back_21 ?_
    refine pt_6_22 F hP hS 31 rfl inX6_back_6 kX6_back_98 dX6_back_22 hf (fun μ_4 H locs hP hS hf => ?_)
    refine lv_aload_n F.1.1 F.1.2.1 dX6_back_25 rfl (lv_at hl 0 rfl) ?_
    refine gt_6_22 F hP 31 rfl inX6_back_6 kX6_back_98 dX6_back_26 ?_
    exact retI F hP hS dX6_back_29 hf
  · refine lv_bipush (v := (-2 : Int32)) F.1.1 F.1.2.1 dX6_back_12 (by decide) ?_
    exact retI F hP hS dX6_back_14 hf
abbrev rmX6_areSo : Room := { frames := 4, cells := 0, slots := 0, locals := 102 }
theorem hdX6_areSo : yX6_areSo.cls = RX6 ∧ yX6_areSo.cls ≠ "java/lang/invoke/MethodHandle" ∧ yX6_areSo.cls ≠ "java/lang/invoke/VarHandle" ∧ (parseMethodDescriptor yX6_areSo.desc).map (fun d => d.parameters.length) = some 0 := by decide +kernel
theorem kX6_areSo_37 : Cond.fieldLink RX6 37 "PaperLayersModel" "readWarms" "[I" ∈ wsX6_areSo := List.mem_cons_of_mem _ (List.mem_append_left _ (List.mem_append_left _ (List.mem_of_getElem? (i := 1) rfl)))
theorem kX6_areSo_40 : Cond.fieldLink RX6 40 "PaperLayersModel" "readDamps" "[I" ∈ wsX6_areSo := List.mem_cons_of_mem _ (List.mem_append_left _ (List.mem_append_left _ (List.mem_of_getElem? (i := 2) rfl)))
theorem kX6_areSo_43 : Cond.fieldLink RX6 43 "PaperLayersModel" "readCounsel" "[I" ∈ wsX6_areSo := List.mem_cons_of_mem _ (List.mem_append_left _ (List.mem_append_left _ (List.mem_of_getElem? (i := 3) rfl)))
theorem kX6_areSo_98 : Cond.fieldLink RX6 98 "PaperLayersModel" "readings" "I" ∈ wsX6_areSo := List.mem_cons_of_mem _ (List.mem_append_left _ (List.mem_append_left _ (List.mem_of_getElem? (i := 0) rfl)))
theorem inX6_areSo_6 : ∀ w ∈ wsX60, w ∈ wsX6_areSo := fun _ h => List.mem_cons_of_mem _ (List.mem_append_right _ (h))
set_option maxHeartbeats 4000000 in
set_option maxRecDepth 100000 in
theorem lX6_areSo_L2 (l : Launch) (G : GT) {p : Program} {e : Env} {s : State} {m : MethodId} {args : Array Value} {below : List Frame} {meth : Method} {c : Code} (F : Fx p s m args meth c cX6_areSo 2 wsX6_areSo RX6 (some .boolean) G) (r : Int32) (μ' : Mem) : ∀ (fuel : Nat), ∀ (x1 : Int32) (μ : Mem) (H : Heap) (locs : List Loc) (ls : Array Slot), Hh G μ H → va_S (gA G) s.heap H locs → lv_has ls 2 [(0, .ref (ga G 31)), (1, .int x1)] → fX6_areSo_L2 fuel x1 μ = some (r, μ') → W p l e rmX6_areSo s m args below meth c H locs 0 0 (MQ below (Qg G (some (.int r)) μ') args s 0 0 (gA G)) (F0 m 2 ls []) := by
  intro fuel
  induction fuel with
  | zero =>
    intro x1 μ H locs ls hP hS hl hf
    exact absurd hf (by intro h; cases h)
  | succ fuel ih2 =>
    intro x1 μ H locs ls hP hS hl hf
    have hf : sX6_areSo_L2 (fX6_areSo_L2 fuel) x1 μ = some (r, μ') := hf
    unfold sX6_areSo_L2 at hf
    refine lv_iload_n F.1.1 F.1.2.1 dX6_areSo_2 rfl (lv_at hl 1 rfl) ?_
    refine lv_aload_n F.1.1 F.1.2.1 dX6_areSo_3 rfl (lv_at hl 0 rfl) ?_
    refine gt_6_22 F hP 31 rfl inX6_areSo_6 kX6_areSo_98 dX6_areSo_4 ?_
    refine jc_ge (tgt := 44) F dX6_areSo_7 (by decide) hf (fun hf => ?_) (fun hf => ?_)
    · refine lv_iconst (v := (1 : Int32)) F.1.1 F.1.2.1 dX6_areSo_44 (by decide) ?_
      exact retC F hP hS dX6_areSo_45 (by decide) hf
    · refine lv_aload_n F.1.1 F.1.2.1 dX6_areSo_10 rfl (lv_at hl 0 rfl) ?_
      refine lv_aload_n F.1.1 F.1.2.1 dX6_areSo_11 rfl (lv_at hl 0 rfl) ?_
      refine gt_6_23 F hP 31 rfl inX6_areSo_6 kX6_areSo_37 dX6_areSo_12 ?_
      refine lv_iload_n F.1.1 F.1.2.1 dX6_areSo_15 rfl (lv_at hl 1 rfl) ?_
      refine r_ial F hP 41 rfl rfl dX6_areSo_16 hf (fun hf => ?_)
      refine lv_aload_n F.1.1 F.1.2.1 dX6_areSo_17 rfl (lv_at hl 0 rfl) ?_
      refine gt_6_24 F hP 31 rfl inX6_areSo_6 kX6_areSo_40 dX6_areSo_18 ?_
      refine lv_iload_n F.1.1 F.1.2.1 dX6_areSo_21 rfl (lv_at hl 1 rfl) ?_
      refine r_ial F hP 42 rfl rfl dX6_areSo_22 hf (fun hf => ?_)
      refine lv_iconst (v := (0 : Int32)) F.1.1 F.1.2.1 dX6_areSo_23 (by decide) ?_
      obtain ⟨r_3, μ_1, hc_2, hf⟩ := bnd_some hf
      refine rV1 (R := rmX6_areSo) (As := [.int (μ 41 (x1).toNatClampNeg), .int (μ 42 (x1).toNatClampNeg), .int (0 : Int32)]) (rest := []) F hP hS hl (mX6_counselBy l G F.2.2.2.2 (μ 41 (x1).toNatClampNeg) (μ 42 (x1).toNatClampNeg) (0 : Int32) _ _ _ hc_2) gX6_areSo_X6_counselBy rfl hdX6_counselBy rfl rfl rfl ⟨Nat.le_of_ble_eq_true rfl, Nat.le_of_ble_eq_true rfl⟩ (by decide) rfl rfl rfl (Nat.le_of_ble_eq_true rfl) ⟨Nat.le_of_ble_eq_true rfl, Nat.le_of_ble_eq_true rfl⟩ dX6_areSo_24 (fun H locs hP hS => ?_)
      refine lv_aload_n F.1.1 F.1.2.1 dX6_areSo_27 rfl (lv_at hl 0 rfl) ?_
      refine gt_6_25 F hP 31 rfl inX6_areSo_6 kX6_areSo_43 dX6_areSo_28 ?_
      refine lv_iload_n F.1.1 F.1.2.1 dX6_areSo_31 rfl (lv_at hl 1 rfl) ?_
      refine r_ial F hP 43 rfl rfl dX6_areSo_32 hf (fun hf => ?_)
      refine jc_eq (tgt := 38) F dX6_areSo_33 (by decide) hf (fun hf => ?_) (fun hf => ?_)
      · refine top_n hf (fun y_4 ey_4 hf => ?_)
        refine lv_iinc (v := y_4) (lv' := [(1, .int y_4), (0, .ref (ga G 31))]) F.1.1 F.1.2.1 dX6_areSo_38 hl (k := 1) rfl ey_4 (by decide) rfl (fun ls hl => ?_)
        refine lv_goto (tgt := 2) F.1.1 F.1.2.1 dX6_areSo_41 (by decide) ?_
        exact ih2 y_4 μ_1 H locs ls hP hS (lv_sub hl [1, 0] rfl) hf
      · refine lv_iconst (v := (0 : Int32)) F.1.1 F.1.2.1 dX6_areSo_36 (by decide) ?_
        exact retC F hP hS dX6_areSo_37 (by decide) hf
set_option maxHeartbeats 4000000 in
set_option maxRecDepth 100000 in
theorem mX6_areSo (l : Launch) (G : GT) (hG : GD G) (μ : Mem) (r : Int32) (μ' : Mem) (hf : fX6_areSo μ = some (r, μ')) : Ct l yX6_areSo wsX6_areSo rmX6_areSo G [.ref (ga G 31)] μ (some (.int r)) μ' := by
  refine Ct.of (cc := cX6_areSo) (maxL := 2) (ret := (some .boolean)) (own := RX6) hG (by decide) rfl rfl (Nat.le_of_ble_eq_true rfl) ?_
  intro p e s m args below meth c ls H locs F hl hP hS
  have hl : lv_has ls 2 [(0, .ref (ga G 31))] := hl
  unfold fX6_areSo at hf
  refine lv_iconst (v := (0 : Int32)) F.1.1 F.1.2.1 dX6_areSo_0 (by decide) ?_
  refine lv_istore_n (lv' := [(1, .int (0 : Int32)), (0, .ref (ga G 31))]) F.1.1 F.1.2.1 dX6_areSo_1 rfl hl (by decide) rfl (fun ls hl => ?_)
  exact lX6_areSo_L2 l G F _ _ FU (0 : Int32) μ H locs ls hP hS (lv_sub hl [1, 0] rfl) hf
abbrev rmX6_ordersOf : Room := { frames := 0, cells := 0, slots := 0, locals := 0 }
theorem hdX6_ordersOf : yX6_ordersOf.cls ≠ "java/lang/invoke/MethodHandle" ∧ yX6_ordersOf.cls ≠ "java/lang/invoke/VarHandle" ∧ (parseMethodDescriptor yX6_ordersOf.desc).map (fun d => d.parameters.length) = some 1 := by decide +kernel
set_option maxHeartbeats 4000000 in
set_option maxRecDepth 100000 in
theorem lX6_ordersOf_L4 (l : Launch) (G : GT) {p : Program} {e : Env} {s : State} {m : MethodId} {args : Array Value} {below : List Frame} {meth : Method} {c : Code} (F : Fx p s m args meth c cX6_ordersOf 3 wsX6_ordersOf RX6 (some .int) G) (x0 : Int32) (r : Int32) (μ' : Mem) : ∀ (fuel : Nat), ∀ (x1 : Int32) (x2 : Int32) (μ : Mem) (H : Heap) (locs : List Loc) (ls : Array Slot), Hh G μ H → va_S (gA G) s.heap H locs → lv_has ls 3 [(0, .int x0), (1, .int x1), (2, .int x2)] → fX6_ordersOf_L4 x0 fuel x1 x2 μ = some (r, μ') → W p l e rmX6_ordersOf s m args below meth c H locs 0 0 (MQ below (Qg G (some (.int r)) μ') args s 0 0 (gA G)) (F0 m 4 ls []) := by
  intro fuel
  induction fuel with
  | zero =>
    intro x1 x2 μ H locs ls hP hS hl hf
    exact absurd hf (by intro h; cases h)
  | succ fuel ih4 =>
    intro x1 x2 μ H locs ls hP hS hl hf
    have hf : sX6_ordersOf_L4 (fX6_ordersOf_L4 x0 fuel) x0 x1 x2 μ = some (r, μ') := hf
    unfold sX6_ordersOf_L4 at hf
    refine lv_iload_n F.1.1 F.1.2.1 dX6_ordersOf_4 rfl (lv_at hl 2 rfl) ?_
    refine lv_iload_n F.1.1 F.1.2.1 dX6_ordersOf_5 rfl (lv_at hl 0 rfl) ?_
    refine jc_gt (tgt := 19) F dX6_ordersOf_6 (by decide) hf (fun hf => ?_) (fun hf => ?_)
    · refine lv_iload_n F.1.1 F.1.2.1 dX6_ordersOf_19 rfl (lv_at hl 1 rfl) ?_
      exact retI F hP hS dX6_ordersOf_20 hf
    · refine lv_iload_n F.1.1 F.1.2.1 dX6_ordersOf_9 rfl (lv_at hl 1 rfl) ?_
      refine lv_iload_n F.1.1 F.1.2.1 dX6_ordersOf_10 rfl (lv_at hl 2 rfl) ?_
      refine lv_imul F.1.1 F.1.2.1 dX6_ordersOf_11 ?_
      refine top_i hf (fun y_1 hf => ?_)
      refine lv_istore_n (lv' := [(1, .int y_1), (0, .int x0), (2, .int x2)]) F.1.1 F.1.2.1 dX6_ordersOf_12 rfl hl (by decide) rfl (fun ls hl => ?_)
      refine top_n hf (fun y_2 ey_2 hf => ?_)
      refine lv_iinc (v := y_2) (lv' := [(2, .int y_2), (1, .int y_1), (0, .int x0)]) F.1.1 F.1.2.1 dX6_ordersOf_13 hl (k := 2) rfl ey_2 (by decide) rfl (fun ls hl => ?_)
      refine lv_goto (tgt := 4) F.1.1 F.1.2.1 dX6_ordersOf_16 (by decide) ?_
      exact ih4 y_1 y_2 μ H locs ls hP hS (lv_sub hl [2, 1, 0] rfl) hf
set_option maxHeartbeats 4000000 in
set_option maxRecDepth 100000 in
theorem mX6_ordersOf (l : Launch) (G : GT) (hG : GD G) (x0 : Int32) (μ : Mem) (r : Int32) (μ' : Mem) (hf : fX6_ordersOf x0 μ = some (r, μ')) : Ct l yX6_ordersOf wsX6_ordersOf rmX6_ordersOf G [.int x0] μ (some (.int r)) μ' := by
  refine Ct.of (cc := cX6_ordersOf) (maxL := 3) (ret := (some .int)) (own := RX6) hG (by decide) rfl rfl (Nat.le_of_ble_eq_true rfl) ?_
  intro p e s m args below meth c ls H locs F hl hP hS
  have hl : lv_has ls 3 [(0, .int x0)] := hl
  unfold fX6_ordersOf at hf
  refine lv_iconst (v := (1 : Int32)) F.1.1 F.1.2.1 dX6_ordersOf_0 (by decide) ?_
  refine lv_istore_n (lv' := [(1, .int (1 : Int32)), (0, .int x0)]) F.1.1 F.1.2.1 dX6_ordersOf_1 rfl hl (by decide) rfl (fun ls hl => ?_)
  refine lv_iconst (v := (2 : Int32)) F.1.1 F.1.2.1 dX6_ordersOf_2 (by decide) ?_
  refine lv_istore_n (lv' := [(2, .int (2 : Int32)), (1, .int (1 : Int32)), (0, .int x0)]) F.1.1 F.1.2.1 dX6_ordersOf_3 rfl hl (by decide) rfl (fun ls hl => ?_)
  exact lX6_ordersOf_L4 l G F x0 _ _ FU (1 : Int32) (2 : Int32) μ H locs ls hP hS (lv_sub hl [2, 1, 0] rfl) hf
abbrev rmX6_orderBy : Room := { frames := 1, cells := 0, slots := 0, locals := 22 }
theorem hdX6_orderBy : yX6_orderBy.cls = RX6 ∧ yX6_orderBy.cls ≠ "java/lang/invoke/MethodHandle" ∧ yX6_orderBy.cls ≠ "java/lang/invoke/VarHandle" ∧ (parseMethodDescriptor yX6_orderBy.desc).map (fun d => d.parameters.length) = some 1 := by decide +kernel
theorem kX6_orderBy_31 : Cond.fieldLink RX6 31 "PaperLayersModel" "order" "[I" ∈ wsX6_orderBy := List.mem_cons_of_mem _ (List.mem_append_left _ (List.mem_of_getElem? (i := 1) rfl))
theorem kX6_orderBy_56 : Cond.fieldLink RX6 56 "PaperLayersModel" "layers" "I" ∈ wsX6_orderBy := List.mem_cons_of_mem _ (List.mem_append_left _ (List.mem_of_getElem? (i := 0) rfl))
theorem inX6_orderBy_6 : ∀ w ∈ wsX60, w ∈ wsX6_orderBy := fun _ h => List.mem_cons_of_mem _ (List.mem_append_right _ (h))
set_option maxHeartbeats 4000000 in
set_option maxRecDepth 100000 in
theorem lX6_orderBy_L39 (l : Launch) (G : GT) {p : Program} {e : Env} {s : State} {m : MethodId} {args : Array Value} {below : List Frame} {meth : Method} {c : Code} (F : Fx p s m args meth c cX6_orderBy 8 wsX6_orderBy RX6 none G) (K18 : Int32 → Int32 → Int32 → Int32 → Mem → Option (Unit × Mem)) (x2 : Int32) (x3 : Int32) (x4 : Int32) (x5 : Int32) (r : Unit) (μ' : Mem) (ih18 : ∀ (x2 : Int32) (x3 : Int32) (x4 : Int32) (x5 : Int32) (μ : Mem) (H : Heap) (locs : List Loc) (ls : Array Slot), Hh G μ H → va_S (gA G) s.heap H locs → lv_has ls 8 [(0, .ref (ga G 31)), (2, .int x2), (3, .int x3), (4, .int x4), (5, .int x5)] → K18 x2 x3 x4 x5 μ = some (r, μ') → W p l e rmX6_orderBy s m args below meth c H locs 0 0 (MQ below (Qg G none μ') args s 0 0 (gA G)) (F0 m 18 ls [])) : ∀ (fuel : Nat), ∀ (x6 : Int32) (x7 : Int32) (μ : Mem) (H : Heap) (locs : List Loc) (ls : Array Slot), Hh G μ H → va_S (gA G) s.heap H locs → lv_has ls 8 [(0, .ref (ga G 31)), (2, .int x2), (3, .int x3), (4, .int x4), (5, .int x5), (6, .int x6), (7, .int x7)] → fX6_orderBy_L39 K18 x2 x3 x4 x5 fuel x6 x7 μ = some (r, μ') → W p l e rmX6_orderBy s m args below meth c H locs 0 0 (MQ below (Qg G none μ') args s 0 0 (gA G)) (F0 m 39 ls []) := by
  intro fuel
  induction fuel with
  | zero =>
    intro x6 x7 μ H locs ls hP hS hl hf
    exact absurd hf (by intro h; cases h)
  | succ fuel ih39 =>
    intro x6 x7 μ H locs ls hP hS hl hf
    have hf : sX6_orderBy_L39 K18 (fX6_orderBy_L39 K18 x2 x3 x4 x5 fuel) x2 x3 x4 x5 x6 x7 μ = some (r, μ') := hf
    unfold sX6_orderBy_L39 at hf
    refine lv_iload F.1.1 F.1.2.1 dX6_orderBy_39 (lv_at hl 3 rfl) ?_
    refine lv_iload F.1.1 F.1.2.1 dX6_orderBy_41 (lv_at hl 6 rfl) ?_
    obtain ⟨r_8, μ_6, hc_7, hf⟩ := bnd_some hf
    refine rS1 (R := rmX6_orderBy) (As := [.int x4, .int x7]) (rest := []) F hP hS hl (mX6_isOf l G F.2.2.2.2 x4 x7 _ _ _ hc_7) gX6_orderBy_X6_isOf hdX6_isOf rfl rfl rfl ⟨Nat.le_of_ble_eq_true rfl, Nat.le_of_ble_eq_true rfl⟩ rfl rfl (Nat.le_of_ble_eq_true rfl) ⟨Nat.le_of_ble_eq_true rfl, Nat.le_of_ble_eq_true rfl⟩ dX6_orderBy_43 (fun H locs hP hS => ?_)
    refine jz_ne (tgt := 54) F dX6_orderBy_46 (by decide) hf (fun hf => ?_) (fun hf => ?_)
    · refine lv_iload F.1.1 F.1.2.1 dX6_orderBy_54 (lv_at hl 5 rfl) ?_
      refine lv_iload F.1.1 F.1.2.1 dX6_orderBy_56 (lv_at hl 3 rfl) ?_
      refine lv_iload F.1.1 F.1.2.1 dX6_orderBy_58 (lv_at hl 6 rfl) ?_
      obtain ⟨r_11, μ_9, hc_10, hf⟩ := bnd_some hf
      refine rS1 (R := rmX6_orderBy) (As := [.int x4, .int x7]) (rest := [.int x6]) F hP hS hl (mX6_isOf l G F.2.2.2.2 x4 x7 _ _ _ hc_10) gX6_orderBy_X6_isOf hdX6_isOf rfl rfl rfl ⟨Nat.le_of_ble_eq_true rfl, Nat.le_of_ble_eq_true rfl⟩ rfl rfl (Nat.le_of_ble_eq_true rfl) ⟨Nat.le_of_ble_eq_true rfl, Nat.le_of_ble_eq_true rfl⟩ dX6_orderBy_60 (fun H locs hP hS => ?_)
      refine jz_eq (tgt := 70) F dX6_orderBy_63 (by decide) hf (fun hf => ?_) (fun hf => ?_)
      · refine lv_iconst (v := (1 : Int32)) F.1.1 F.1.2.1 dX6_orderBy_70 (by decide) ?_
        refine lv_isub F.1.1 F.1.2.1 dX6_orderBy_71 ?_
        refine top_i hf (fun y_12 hf => ?_)
        refine lv_istore (lv' := [(6, .int y_12), (0, .ref (ga G 31)), (2, .int x2), (3, .int x3), (4, .int x4), (5, .int x5), (7, .int x7)]) F.1.1 F.1.2.1 dX6_orderBy_72 hl (by decide) rfl (fun ls hl => ?_)
        refine top_n hf (fun y_13 ey_13 hf => ?_)
        refine lv_iinc (v := y_13) (lv' := [(7, .int y_13), (6, .int y_12), (0, .ref (ga G 31)), (2, .int x2), (3, .int x3), (4, .int x4), (5, .int x5)]) F.1.1 F.1.2.1 dX6_orderBy_74 hl (k := 6) rfl ey_13 (by decide) rfl (fun ls hl => ?_)
        refine lv_goto (tgt := 39) F.1.1 F.1.2.1 dX6_orderBy_77 (by decide) ?_
        exact ih39 y_12 y_13 μ_9 H locs ls hP hS (lv_sub hl [2, 3, 4, 5, 6, 1, 0] rfl) hf
      · refine lv_iconst (v := (0 : Int32)) F.1.1 F.1.2.1 dX6_orderBy_66 (by decide) ?_
        refine lv_goto (tgt := 71) F.1.1 F.1.2.1 dX6_orderBy_67 (by decide) ?_
        refine lv_isub F.1.1 F.1.2.1 dX6_orderBy_71 ?_
        refine top_i hf (fun y_14 hf => ?_)
        refine lv_istore (lv' := [(6, .int y_14), (0, .ref (ga G 31)), (2, .int x2), (3, .int x3), (4, .int x4), (5, .int x5), (7, .int x7)]) F.1.1 F.1.2.1 dX6_orderBy_72 hl (by decide) rfl (fun ls hl => ?_)
        refine top_n hf (fun y_15 ey_15 hf => ?_)
        refine lv_iinc (v := y_15) (lv' := [(7, .int y_15), (6, .int y_14), (0, .ref (ga G 31)), (2, .int x2), (3, .int x3), (4, .int x4), (5, .int x5)]) F.1.1 F.1.2.1 dX6_orderBy_74 hl (k := 6) rfl ey_15 (by decide) rfl (fun ls hl => ?_)
        refine lv_goto (tgt := 39) F.1.1 F.1.2.1 dX6_orderBy_77 (by decide) ?_
        exact ih39 y_14 y_15 μ_9 H locs ls hP hS (lv_sub hl [2, 3, 4, 5, 6, 1, 0] rfl) hf
    · refine lv_iload F.1.1 F.1.2.1 dX6_orderBy_49 (lv_at hl 5 rfl) ?_
      refine jz_le (tgt := 80) F dX6_orderBy_51 (by decide) hf (fun hf => ?_) (fun hf => ?_)
      · refine lv_aload_n F.1.1 F.1.2.1 dX6_orderBy_80 rfl (lv_at hl 0 rfl) ?_
        refine gt_6_16 F hP 31 rfl inX6_orderBy_6 kX6_orderBy_31 dX6_orderBy_81 ?_
        refine lv_iload F.1.1 F.1.2.1 dX6_orderBy_84 (lv_at hl 4 rfl) ?_
        refine lv_iload F.1.1 F.1.2.1 dX6_orderBy_86 (lv_at hl 6 rfl) ?_
        refine r_ias F hP hS 39 rfl rfl dX6_orderBy_88 hf (fun μ_16 H locs hP hS hf => ?_)
        refine lv_iload F.1.1 F.1.2.1 dX6_orderBy_89 (lv_at hl 3 rfl) ?_
        refine lv_iconst (v := (1 : Int32)) F.1.1 F.1.2.1 dX6_orderBy_91 (by decide) ?_
        refine lv_iload F.1.1 F.1.2.1 dX6_orderBy_92 (lv_at hl 6 rfl) ?_
        refine lv_ishl F.1.1 F.1.2.1 dX6_orderBy_94 ?_
        refine lv_ior F.1.1 F.1.2.1 dX6_orderBy_95 ?_
        refine top_i hf (fun y_17 hf => ?_)
        refine lv_istore (lv' := [(4, .int y_17), (0, .ref (ga G 31)), (2, .int x2), (3, .int x3), (5, .int x5), (6, .int x6), (7, .int x7)]) F.1.1 F.1.2.1 dX6_orderBy_96 hl (by decide) rfl (fun ls hl => ?_)
        refine lv_aload_n F.1.1 F.1.2.1 dX6_orderBy_98 rfl (lv_at hl 1 rfl) ?_
        refine gt_6_5 F hP 31 rfl inX6_orderBy_6 kX6_orderBy_56 dX6_orderBy_99 ?_
        refine lv_iload F.1.1 F.1.2.1 dX6_orderBy_102 (lv_at hl 4 rfl) ?_
        refine lv_isub F.1.1 F.1.2.1 dX6_orderBy_104 ?_
        refine lv_iconst (v := (1 : Int32)) F.1.1 F.1.2.1 dX6_orderBy_105 (by decide) ?_
        refine lv_isub F.1.1 F.1.2.1 dX6_orderBy_106 ?_
        refine lv_iconst (v := (1 : Int32)) F.1.1 F.1.2.1 dX6_orderBy_107 (by decide) ?_
        refine jc_le (tgt := 125) F dX6_orderBy_108 (by decide) hf (fun hf => ?_) (fun hf => ?_)
        · refine lv_iconst (v := (1 : Int32)) F.1.1 F.1.2.1 dX6_orderBy_125 (by decide) ?_
          refine lv_istore_n (lv' := [(3, .int (1 : Int32)), (4, .int y_17), (0, .ref (ga G 31)), (2, .int x2), (5, .int x5), (6, .int x6), (7, .int x7)]) F.1.1 F.1.2.1 dX6_orderBy_126 rfl hl (by decide) rfl (fun ls hl => ?_)
          refine top_n hf (fun y_18 ey_18 hf => ?_)
          refine lv_iinc (v := y_18) (lv' := [(5, .int y_18), (3, .int (1 : Int32)), (4, .int y_17), (0, .ref (ga G 31)), (2, .int x2), (6, .int x6), (7, .int x7)]) F.1.1 F.1.2.1 dX6_orderBy_127 hl (k := 4) rfl ey_18 (by decide) rfl (fun ls hl => ?_)
          refine lv_goto (tgt := 18) F.1.1 F.1.2.1 dX6_orderBy_130 (by decide) ?_
          exact ih18 x2 (1 : Int32) y_17 y_18 μ_16 H locs ls hP hS (lv_sub hl [3, 4, 1, 2, 0] rfl) hf
        · refine lv_iload_n F.1.1 F.1.2.1 dX6_orderBy_111 rfl (lv_at hl 3 rfl) ?_
          refine lv_aload_n F.1.1 F.1.2.1 dX6_orderBy_112 rfl (lv_at hl 1 rfl) ?_
          refine gt_6_5 F hP 31 rfl inX6_orderBy_6 kX6_orderBy_56 dX6_orderBy_113 ?_
          refine lv_iload F.1.1 F.1.2.1 dX6_orderBy_116 (lv_at hl 4 rfl) ?_
          refine lv_isub F.1.1 F.1.2.1 dX6_orderBy_118 ?_
          refine lv_iconst (v := (1 : Int32)) F.1.1 F.1.2.1 dX6_orderBy_119 (by decide) ?_
          refine lv_isub F.1.1 F.1.2.1 dX6_orderBy_120 ?_
          refine r_div F dX6_orderBy_121 hf (fun hf => ?_)
          refine lv_goto (tgt := 126) F.1.1 F.1.2.1 dX6_orderBy_122 (by decide) ?_
          refine top_i hf (fun y_19 hf => ?_)
          refine lv_istore_n (lv' := [(3, .int y_19), (4, .int y_17), (0, .ref (ga G 31)), (2, .int x2), (5, .int x5), (6, .int x6), (7, .int x7)]) F.1.1 F.1.2.1 dX6_orderBy_126 rfl hl (by decide) rfl (fun ls hl => ?_)
          refine top_n hf (fun y_20 ey_20 hf => ?_)
          refine lv_iinc (v := y_20) (lv' := [(5, .int y_20), (3, .int y_19), (4, .int y_17), (0, .ref (ga G 31)), (2, .int x2), (6, .int x6), (7, .int x7)]) F.1.1 F.1.2.1 dX6_orderBy_127 hl (k := 4) rfl ey_20 (by decide) rfl (fun ls hl => ?_)
          refine lv_goto (tgt := 18) F.1.1 F.1.2.1 dX6_orderBy_130 (by decide) ?_
          exact ih18 x2 y_19 y_17 y_20 μ_16 H locs ls hP hS (lv_sub hl [3, 4, 1, 2, 0] rfl) hf
      · refine lv_iload F.1.1 F.1.2.1 dX6_orderBy_54 (lv_at hl 5 rfl) ?_
        refine lv_iload F.1.1 F.1.2.1 dX6_orderBy_56 (lv_at hl 3 rfl) ?_
        refine lv_iload F.1.1 F.1.2.1 dX6_orderBy_58 (lv_at hl 6 rfl) ?_
        obtain ⟨r_23, μ_21, hc_22, hf⟩ := bnd_some hf
        refine rS1 (R := rmX6_orderBy) (As := [.int x4, .int x7]) (rest := [.int x6]) F hP hS hl (mX6_isOf l G F.2.2.2.2 x4 x7 _ _ _ hc_22) gX6_orderBy_X6_isOf hdX6_isOf rfl rfl rfl ⟨Nat.le_of_ble_eq_true rfl, Nat.le_of_ble_eq_true rfl⟩ rfl rfl (Nat.le_of_ble_eq_true rfl) ⟨Nat.le_of_ble_eq_true rfl, Nat.le_of_ble_eq_true rfl⟩ dX6_orderBy_60 (fun H locs hP hS => ?_)
        refine jz_eq (tgt := 70) F dX6_orderBy_63 (by decide) hf (fun hf => ?_) (fun hf => ?_)
        · refine lv_iconst (v := (1 : Int32)) F.1.1 F.1.2.1 dX6_orderBy_70 (by decide) ?_
          refine lv_isub F.1.1 F.1.2.1 dX6_orderBy_71 ?_
          refine top_i hf (fun y_24 hf => ?_)
          refine lv_istore (lv' := [(6, .int y_24), (0, .ref (ga G 31)), (2, .int x2), (3, .int x3), (4, .int x4), (5, .int x5), (7, .int x7)]) F.1.1 F.1.2.1 dX6_orderBy_72 hl (by decide) rfl (fun ls hl => ?_)
          refine top_n hf (fun y_25 ey_25 hf => ?_)
          refine lv_iinc (v := y_25) (lv' := [(7, .int y_25), (6, .int y_24), (0, .ref (ga G 31)), (2, .int x2), (3, .int x3), (4, .int x4), (5, .int x5)]) F.1.1 F.1.2.1 dX6_orderBy_74 hl (k := 6) rfl ey_25 (by decide) rfl (fun ls hl => ?_)
          refine lv_goto (tgt := 39) F.1.1 F.1.2.1 dX6_orderBy_77 (by decide) ?_
          exact ih39 y_24 y_25 μ_21 H locs ls hP hS (lv_sub hl [2, 3, 4, 5, 6, 1, 0] rfl) hf
        · refine lv_iconst (v := (0 : Int32)) F.1.1 F.1.2.1 dX6_orderBy_66 (by decide) ?_
          refine lv_goto (tgt := 71) F.1.1 F.1.2.1 dX6_orderBy_67 (by decide) ?_
          refine lv_isub F.1.1 F.1.2.1 dX6_orderBy_71 ?_
          refine top_i hf (fun y_26 hf => ?_)
          refine lv_istore (lv' := [(6, .int y_26), (0, .ref (ga G 31)), (2, .int x2), (3, .int x3), (4, .int x4), (5, .int x5), (7, .int x7)]) F.1.1 F.1.2.1 dX6_orderBy_72 hl (by decide) rfl (fun ls hl => ?_)
          refine top_n hf (fun y_27 ey_27 hf => ?_)
          refine lv_iinc (v := y_27) (lv' := [(7, .int y_27), (6, .int y_26), (0, .ref (ga G 31)), (2, .int x2), (3, .int x3), (4, .int x4), (5, .int x5)]) F.1.1 F.1.2.1 dX6_orderBy_74 hl (k := 6) rfl ey_27 (by decide) rfl (fun ls hl => ?_)
          refine lv_goto (tgt := 39) F.1.1 F.1.2.1 dX6_orderBy_77 (by decide) ?_
          exact ih39 y_26 y_27 μ_21 H locs ls hP hS (lv_sub hl [2, 3, 4, 5, 6, 1, 0] rfl) hf
set_option maxHeartbeats 4000000 in
set_option maxRecDepth 100000 in
theorem lX6_orderBy_L18 (l : Launch) (G : GT) {p : Program} {e : Env} {s : State} {m : MethodId} {args : Array Value} {below : List Frame} {meth : Method} {c : Code} (F : Fx p s m args meth c cX6_orderBy 8 wsX6_orderBy RX6 none G) (r : Unit) (μ' : Mem) : ∀ (fuel : Nat), ∀ (x2 : Int32) (x3 : Int32) (x4 : Int32) (x5 : Int32) (μ : Mem) (H : Heap) (locs : List Loc) (ls : Array Slot), Hh G μ H → va_S (gA G) s.heap H locs → lv_has ls 8 [(0, .ref (ga G 31)), (2, .int x2), (3, .int x3), (4, .int x4), (5, .int x5)] → fX6_orderBy_L18 fuel x2 x3 x4 x5 μ = some (r, μ') → W p l e rmX6_orderBy s m args below meth c H locs 0 0 (MQ below (Qg G none μ') args s 0 0 (gA G)) (F0 m 18 ls []) := by
  intro fuel
  induction fuel with
  | zero =>
    intro x2 x3 x4 x5 μ H locs ls hP hS hl hf
    exact absurd hf (by intro h; cases h)
  | succ fuel ih18 =>
    intro x2 x3 x4 x5 μ H locs ls hP hS hl hf
    have hf : sX6_orderBy_L18 (fX6_orderBy_L18 fuel) x2 x3 x4 x5 μ = some (r, μ') := hf
    unfold sX6_orderBy_L18 at hf
    refine lv_iload F.1.1 F.1.2.1 dX6_orderBy_18 (lv_at hl 4 rfl) ?_
    refine lv_aload_n F.1.1 F.1.2.1 dX6_orderBy_20 rfl (lv_at hl 0 rfl) ?_
    refine gt_6_5 F hP 31 rfl inX6_orderBy_6 kX6_orderBy_56 dX6_orderBy_21 ?_
    refine jc_ge (tgt := 133) F dX6_orderBy_24 (by decide) hf (fun hf => ?_) (fun hf => ?_)
    · exact retV F hP hS dX6_orderBy_133 hf
    · refine lv_iload_n F.1.1 F.1.2.1 dX6_orderBy_27 rfl (lv_at hl 1 rfl) ?_
      refine lv_iload_n F.1.1 F.1.2.1 dX6_orderBy_28 rfl (lv_at hl 2 rfl) ?_
      refine r_div F dX6_orderBy_29 hf (fun hf => ?_)
      refine top_i hf (fun y_4 hf => ?_)
      refine lv_istore (lv' := [(6, .int y_4), (0, .ref (ga G 31)), (2, .int x2), (3, .int x3), (4, .int x4), (5, .int x5)]) F.1.1 F.1.2.1 dX6_orderBy_30 hl (by decide) rfl (fun ls hl => ?_)
      refine lv_iload_n F.1.1 F.1.2.1 dX6_orderBy_32 rfl (lv_at hl 2 rfl) ?_
      refine lv_iload_n F.1.1 F.1.2.1 dX6_orderBy_33 rfl (lv_at hl 3 rfl) ?_
      refine r_rem F dX6_orderBy_34 hf (fun hf => ?_)
      refine top_i hf (fun y_5 hf => ?_)
      refine lv_istore_n (lv' := [(2, .int y_5), (6, .int y_4), (0, .ref (ga G 31)), (3, .int x3), (4, .int x4), (5, .int x5)]) F.1.1 F.1.2.1 dX6_orderBy_35 rfl hl (by decide) rfl (fun ls hl => ?_)
      refine lv_iconst (v := (0 : Int32)) F.1.1 F.1.2.1 dX6_orderBy_36 (by decide) ?_
      refine lv_istore (lv' := [(7, .int (0 : Int32)), (2, .int y_5), (6, .int y_4), (0, .ref (ga G 31)), (3, .int x3), (4, .int x4), (5, .int x5)]) F.1.1 F.1.2.1 dX6_orderBy_37 hl (by decide) rfl (fun ls hl => ?_)
      exact lX6_orderBy_L39 l G F _ y_5 x3 x4 x5 _ _ ih18 FU y_4 (0 : Int32) μ H locs ls hP hS (lv_sub hl [3, 1, 4, 5, 6, 2, 0] rfl) hf
set_option maxHeartbeats 4000000 in
set_option maxRecDepth 100000 in
theorem mX6_orderBy (l : Launch) (G : GT) (hG : GD G) (x1 : Int32) (μ : Mem) (r : Unit) (μ' : Mem) (hf : fX6_orderBy x1 μ = some (r, μ')) : Ct l yX6_orderBy wsX6_orderBy rmX6_orderBy G [.ref (ga G 31), .int x1] μ none μ' := by
  refine Ct.of (cc := cX6_orderBy) (maxL := 8) (ret := none) (own := RX6) hG (by decide) rfl rfl (Nat.le_of_ble_eq_true rfl) ?_
  intro p e s m args below meth c ls H locs F hl hP hS
  have hl : lv_has ls 8 [(0, .ref (ga G 31)), (1, .int x1)] := hl
  unfold fX6_orderBy at hf
  refine lv_iload_n F.1.1 F.1.2.1 dX6_orderBy_0 rfl (lv_at hl 1 rfl) ?_
  refine lv_istore_n (lv' := [(2, .int x1), (0, .ref (ga G 31)), (1, .int x1)]) F.1.1 F.1.2.1 dX6_orderBy_1 rfl hl (by decide) rfl (fun ls hl => ?_)
  refine lv_aload_n F.1.1 F.1.2.1 dX6_orderBy_2 rfl (lv_at hl 1 rfl) ?_
  refine gt_6_5 F hP 31 rfl inX6_orderBy_6 kX6_orderBy_56 dX6_orderBy_3 ?_
  refine lv_iconst (v := (1 : Int32)) F.1.1 F.1.2.1 dX6_orderBy_6 (by decide) ?_
  refine lv_isub F.1.1 F.1.2.1 dX6_orderBy_7 ?_
  obtain ⟨r_3, μ_1, hc_2, hf⟩ := bnd_some hf
  refine rS1 (R := rmX6_orderBy) (As := [.int ((μ 31 5) - (1 : Int32))]) (rest := []) F hP hS hl (mX6_ordersOf l G F.2.2.2.2 ((μ 31 5) - (1 : Int32)) _ _ _ hc_2) gX6_orderBy_X6_ordersOf hdX6_ordersOf rfl rfl rfl ⟨Nat.le_of_ble_eq_true rfl, Nat.le_of_ble_eq_true rfl⟩ rfl rfl (Nat.le_of_ble_eq_true rfl) ⟨Nat.le_of_ble_eq_true rfl, Nat.le_of_ble_eq_true rfl⟩ dX6_orderBy_8 (fun H locs hP hS => ?_)
  refine lv_istore_n (lv' := [(3, .int r_3), (2, .int x1), (0, .ref (ga G 31)), (1, .int x1)]) F.1.1 F.1.2.1 dX6_orderBy_11 rfl hl (by decide) rfl (fun ls hl => ?_)
  refine lv_iconst (v := (0 : Int32)) F.1.1 F.1.2.1 dX6_orderBy_12 (by decide) ?_
  refine lv_istore (lv' := [(4, .int (0 : Int32)), (3, .int r_3), (2, .int x1), (0, .ref (ga G 31)), (1, .int x1)]) F.1.1 F.1.2.1 dX6_orderBy_13 hl (by decide) rfl (fun ls hl => ?_)
  refine lv_iconst (v := (0 : Int32)) F.1.1 F.1.2.1 dX6_orderBy_15 (by decide) ?_
  refine lv_istore (lv' := [(5, .int (0 : Int32)), (4, .int (0 : Int32)), (3, .int r_3), (2, .int x1), (0, .ref (ga G 31)), (1, .int x1)]) F.1.1 F.1.2.1 dX6_orderBy_16 hl (by decide) rfl (fun ls hl => ?_)
  exact lX6_orderBy_L18 l G F _ _ FU x1 r_3 (0 : Int32) (0 : Int32) μ_1 H locs ls hP hS (lv_sub hl [4, 3, 2, 1, 0] rfl) hf
