abbrev rmX5_isUpTo : Room := { frames := 0, cells := 0, slots := 0, locals := 0 }
theorem hdX5_isUpTo : yX5_isUpTo.cls ≠ "java/lang/invoke/MethodHandle" ∧ yX5_isUpTo.cls ≠ "java/lang/invoke/VarHandle" ∧ (parseMethodDescriptor yX5_isUpTo.desc).map (fun d => d.parameters.length) = some 2 := by decide +kernel
set_option maxHeartbeats 4000000 in
set_option maxRecDepth 100000 in
theorem mX5_isUpTo (l : Launch) (G : GT) (hG : GD G) (x0 : Int32) (x1 : Int32) (μ : Mem) (r : Int32) (μ' : Mem) (hf : fX5_isUpTo x0 x1 μ = some (r, μ')) : Ct l yX5_isUpTo wsX5_isUpTo rmX5_isUpTo G [.int x0, .int x1] μ (some (.int r)) μ' := by
  refine Ct.of (cc := cX5_isUpTo) (maxL := 2) (ret := (some .boolean)) (own := RX5) hG (by decide) rfl rfl (Nat.le_of_ble_eq_true rfl) ?_
  intro p e s m args below meth c ls H locs F hl hP hS
  have hl : lv_has ls 2 [(0, .int x0), (1, .int x1)] := hl
  unfold fX5_isUpTo at hf
  refine lv_iload_n F.1.1 F.1.2.1 dX5_isUpTo_0 rfl (lv_at hl 0 rfl) ?_
  refine jz_lt (tgt := 13) F dX5_isUpTo_1 (by decide) hf (fun hf => ?_) (fun hf => ?_)
  · refine lv_iconst (v := (0 : Int32)) F.1.1 F.1.2.1 dX5_isUpTo_13 (by decide) ?_
    exact retC F hP hS dX5_isUpTo_14 (by decide) hf
  · refine lv_iload_n F.1.1 F.1.2.1 dX5_isUpTo_4 rfl (lv_at hl 0 rfl) ?_
    refine lv_iload_n F.1.1 F.1.2.1 dX5_isUpTo_5 rfl (lv_at hl 1 rfl) ?_
    refine jc_gt (tgt := 13) F dX5_isUpTo_6 (by decide) hf (fun hf => ?_) (fun hf => ?_)
    · refine lv_iconst (v := (0 : Int32)) F.1.1 F.1.2.1 dX5_isUpTo_13 (by decide) ?_
      exact retC F hP hS dX5_isUpTo_14 (by decide) hf
    · refine lv_iconst (v := (1 : Int32)) F.1.1 F.1.2.1 dX5_isUpTo_9 (by decide) ?_
      refine lv_goto (tgt := 14) F.1.1 F.1.2.1 dX5_isUpTo_10 (by decide) ?_
      exact retC F hP hS dX5_isUpTo_14 (by decide) hf
abbrev rmX5_sheetAt : Room := { frames := 1, cells := 0, slots := 0, locals := 21 }
theorem hdX5_sheetAt : yX5_sheetAt.cls = RX5 ∧ yX5_sheetAt.cls ≠ "java/lang/invoke/MethodHandle" ∧ yX5_sheetAt.cls ≠ "java/lang/invoke/VarHandle" ∧ (parseMethodDescriptor yX5_sheetAt.desc).map (fun d => d.parameters.length) = some 1 := by decide +kernel
theorem kX5_sheetAt_37 : Cond.fieldLink RX5 37 "PaperLayers" "sheets" "[LPaperLayers$Sheet;" ∈ wsX5_sheetAt := List.mem_cons_of_mem _ (List.mem_append_left _ (List.mem_of_getElem? (i := 0) rfl))
theorem inX5_sheetAt_5 : ∀ w ∈ wsX50, w ∈ wsX5_sheetAt := fun _ h => List.mem_cons_of_mem _ (List.mem_append_right _ (h))
set_option maxHeartbeats 4000000 in
set_option maxRecDepth 100000 in
theorem mX5_sheetAt (l : Launch) (G : GT) (hG : GD G) (x1 : Int32) (μ : Mem) (r : Option Nat) (μ' : Mem) (hf : fX5_sheetAt x1 μ = some (r, μ')) : Ct l yX5_sheetAt wsX5_sheetAt rmX5_sheetAt G [.ref (ga G 0), .int x1] μ (some (vo G r)) μ' := by
  refine Ct.of (cc := cX5_sheetAt) (maxL := 2) (ret := (some (.object "PaperLayers$Sheet"))) (own := RX5) hG (by decide) rfl rfl (Nat.le_of_ble_eq_true rfl) ?_
  intro p e s m args below meth c ls H locs F hl hP hS
  have hl : lv_has ls 2 [(0, .ref (ga G 0)), (1, .int x1)] := hl
  unfold fX5_sheetAt at hf
  refine lv_iload_n F.1.1 F.1.2.1 dX5_sheetAt_0 rfl (lv_at hl 1 rfl) ?_
  refine lv_iconst (v := (3 : Int32)) F.1.1 F.1.2.1 dX5_sheetAt_1 (by decide) ?_
  obtain ⟨r_3, μ_1, hc_2, hf⟩ := bnd_some hf
  refine rS1 (R := rmX5_sheetAt) (As := [.int x1, .int (3 : Int32)]) (rest := []) F hP hS hl (mX5_isUpTo l G F.2.2.2.2 x1 (3 : Int32) _ _ _ hc_2) gX5_sheetAt_X5_isUpTo hdX5_isUpTo rfl rfl rfl ⟨Nat.le_of_ble_eq_true rfl, Nat.le_of_ble_eq_true rfl⟩ rfl rfl (Nat.le_of_ble_eq_true rfl) ⟨Nat.le_of_ble_eq_true rfl, Nat.le_of_ble_eq_true rfl⟩ dX5_sheetAt_2 (fun H locs hP hS => ?_)
  refine jz_eq (tgt := 17) F dX5_sheetAt_5 (by decide) hf (fun hf => ?_) (fun hf => ?_)
  · refine lv_null F.1.1 F.1.2.1 dX5_sheetAt_17 ?_
    exact retN F hP hS dX5_sheetAt_18 hf
  · refine lv_aload_n F.1.1 F.1.2.1 dX5_sheetAt_8 rfl (lv_at hl 0 rfl) ?_
    refine gt_5_4 F hP 0 rfl inX5_sheetAt_5 kX5_sheetAt_37 dX5_sheetAt_9 ?_
    refine lv_iload_n F.1.1 F.1.2.1 dX5_sheetAt_12 rfl (lv_at hl 1 rfl) ?_
    refine r_aaS F hP dX5_sheetAt_13 hf (fun s_4 hf => ?_)
    refine lv_goto (tgt := 18) F.1.1 F.1.2.1 dX5_sheetAt_14 (by decide) ?_
    exact retA F hP hS dX5_sheetAt_18 hf
theorem shX5_sheetAt_r {x1 : Int32} {μ μ' : Mem} {i : Nat} (h : fX5_sheetAt x1 μ = some (some i, μ')) : sh i = 3 := by
  unfold fX5_sheetAt at h
  obtain ⟨a, μ1, -, h⟩ := bnd_some h
  split at h
  · cases h
  · obtain ⟨hi, h⟩ := ifs h
    cases h
    exact sh_9s (inb_lt hi)
abbrev rmX3_faultAsLane : Room := { frames := 0, cells := 0, slots := 0, locals := 0 }
theorem hdX3_faultAsLane : yX3_faultAsLane.cls = RX3 ∧ yX3_faultAsLane.cls ≠ "java/lang/invoke/MethodHandle" ∧ yX3_faultAsLane.cls ≠ "java/lang/invoke/VarHandle" ∧ (parseMethodDescriptor yX3_faultAsLane.desc).map (fun d => d.parameters.length) = some 1 := by decide +kernel
theorem kX3_faultAsLane_15 : Cond.fieldLink RX3 15 "PaperLayers$Sheet" "hasRow" "Z" ∈ wsX3_faultAsLane := List.mem_cons_of_mem _ (List.mem_append_left _ (List.mem_of_getElem? (i := 0) rfl))
theorem kX3_faultAsLane_19 : Cond.fieldLink RX3 19 "PaperLayers$Sheet" "lane" "I" ∈ wsX3_faultAsLane := List.mem_cons_of_mem _ (List.mem_append_left _ (List.mem_of_getElem? (i := 1) rfl))
theorem inX3_faultAsLane_3 : ∀ w ∈ wsX30, w ∈ wsX3_faultAsLane := fun _ h => List.mem_cons_of_mem _ (List.mem_append_right _ (h))
set_option maxHeartbeats 4000000 in
set_option maxRecDepth 100000 in
theorem mX3_faultAsLane (l : Launch) (G : GT) (hG : GD G) (t : Nat) (st : sh t = 3) (x1 : Int32) (μ : Mem) (r : Int32) (μ' : Mem) (hf : fX3_faultAsLane t x1 μ = some (r, μ')) : Ct l yX3_faultAsLane wsX3_faultAsLane rmX3_faultAsLane G [.ref (ga G t), .int x1] μ (some (.int r)) μ' := by
  refine Ct.of (cc := cX3_faultAsLane) (maxL := 2) (ret := (some .int)) (own := RX3) hG (by decide) rfl rfl (Nat.le_of_ble_eq_true rfl) ?_
  intro p e s m args below meth c ls H locs F hl hP hS
  have hl : lv_has ls 2 [(0, .ref (ga G t)), (1, .int x1)] := hl
  unfold fX3_faultAsLane at hf
  refine lv_aload_n F.1.1 F.1.2.1 dX3_faultAsLane_0 rfl (lv_at hl 0 rfl) ?_
  refine gt_3_1 F hP t st inX3_faultAsLane_3 kX3_faultAsLane_15 dX3_faultAsLane_1 ?_
  refine jz_ne (tgt := 9) F dX3_faultAsLane_4 (by decide) hf (fun hf => ?_) (fun hf => ?_)
  · refine lv_aload_n F.1.1 F.1.2.1 dX3_faultAsLane_9 rfl (lv_at hl 0 rfl) ?_
    refine gt_3_2 F hP t st inX3_faultAsLane_3 kX3_faultAsLane_19 dX3_faultAsLane_10 ?_
    refine lv_iload_n F.1.1 F.1.2.1 dX3_faultAsLane_13 rfl (lv_at hl 1 rfl) ?_
    refine jc_ne (tgt := 21) F dX3_faultAsLane_14 (by decide) hf (fun hf => ?_) (fun hf => ?_)
    · refine lv_iconst (v := (2 : Int32)) F.1.1 F.1.2.1 dX3_faultAsLane_21 (by decide) ?_
      exact retI F hP hS dX3_faultAsLane_22 hf
    · refine lv_iconst (v := (0 : Int32)) F.1.1 F.1.2.1 dX3_faultAsLane_17 (by decide) ?_
      refine lv_goto (tgt := 22) F.1.1 F.1.2.1 dX3_faultAsLane_18 (by decide) ?_
      exact retI F hP hS dX3_faultAsLane_22 hf
  · refine lv_iconst (v := (1 : Int32)) F.1.1 F.1.2.1 dX3_faultAsLane_7 (by decide) ?_
    exact retI F hP hS dX3_faultAsLane_8 hf
abbrev rmX3_faultOfCells : Room := { frames := 0, cells := 0, slots := 0, locals := 0 }
theorem hdX3_faultOfCells : yX3_faultOfCells.cls = RX3 ∧ yX3_faultOfCells.cls ≠ "java/lang/invoke/MethodHandle" ∧ yX3_faultOfCells.cls ≠ "java/lang/invoke/VarHandle" ∧ (parseMethodDescriptor yX3_faultOfCells.desc).map (fun d => d.parameters.length) = some 2 := by decide +kernel
theorem kX3_faultOfCells_15 : Cond.fieldLink RX3 15 "PaperLayers$Sheet" "hasRow" "Z" ∈ wsX3_faultOfCells := List.mem_cons_of_mem _ (List.mem_append_left _ (List.mem_of_getElem? (i := 0) rfl))
theorem kX3_faultOfCells_32 : Cond.fieldLink RX3 32 "PaperLayers$Sheet" "length" "I" ∈ wsX3_faultOfCells := List.mem_cons_of_mem _ (List.mem_append_left _ (List.mem_of_getElem? (i := 1) rfl))
theorem inX3_faultOfCells_3 : ∀ w ∈ wsX30, w ∈ wsX3_faultOfCells := fun _ h => List.mem_cons_of_mem _ (List.mem_append_right _ (h))
set_option maxHeartbeats 4000000 in
set_option maxRecDepth 100000 in
theorem mX3_faultOfCells (l : Launch) (G : GT) (hG : GD G) (t : Nat) (st : sh t = 3) (x1 : Int32) (x2 : Int32) (μ : Mem) (r : Int32) (μ' : Mem) (hf : fX3_faultOfCells t x1 x2 μ = some (r, μ')) : Ct l yX3_faultOfCells wsX3_faultOfCells rmX3_faultOfCells G [.ref (ga G t), .int x1, .int x2] μ (some (.int r)) μ' := by
  refine Ct.of (cc := cX3_faultOfCells) (maxL := 3) (ret := (some .int)) (own := RX3) hG (by decide) rfl rfl (Nat.le_of_ble_eq_true rfl) ?_
  intro p e s m args below meth c ls H locs F hl hP hS
  have hl : lv_has ls 3 [(0, .ref (ga G t)), (1, .int x1), (2, .int x2)] := hl
  unfold fX3_faultOfCells at hf
  refine lv_aload_n F.1.1 F.1.2.1 dX3_faultOfCells_0 rfl (lv_at hl 0 rfl) ?_
  refine gt_3_1 F hP t st inX3_faultOfCells_3 kX3_faultOfCells_15 dX3_faultOfCells_1 ?_
  refine jz_ne (tgt := 9) F dX3_faultOfCells_4 (by decide) hf (fun hf => ?_) (fun hf => ?_)
  · refine lv_iload_n F.1.1 F.1.2.1 dX3_faultOfCells_9 rfl (lv_at hl 1 rfl) ?_
    refine jz_lt (tgt := 39) F dX3_faultOfCells_10 (by decide) hf (fun hf => ?_) (fun hf => ?_)
    · refine lv_iconst (v := (3 : Int32)) F.1.1 F.1.2.1 dX3_faultOfCells_39 (by decide) ?_
      exact retI F hP hS dX3_faultOfCells_40 hf
    · refine lv_iload_n F.1.1 F.1.2.1 dX3_faultOfCells_13 rfl (lv_at hl 1 rfl) ?_
      refine lv_aload_n F.1.1 F.1.2.1 dX3_faultOfCells_14 rfl (lv_at hl 0 rfl) ?_
      refine gt_3_3 F hP t st inX3_faultOfCells_3 kX3_faultOfCells_32 dX3_faultOfCells_15 ?_
      refine jc_gt (tgt := 39) F dX3_faultOfCells_18 (by decide) hf (fun hf => ?_) (fun hf => ?_)
      · refine lv_iconst (v := (3 : Int32)) F.1.1 F.1.2.1 dX3_faultOfCells_39 (by decide) ?_
        exact retI F hP hS dX3_faultOfCells_40 hf
      · refine lv_iload_n F.1.1 F.1.2.1 dX3_faultOfCells_21 rfl (lv_at hl 2 rfl) ?_
        refine jz_lt (tgt := 39) F dX3_faultOfCells_22 (by decide) hf (fun hf => ?_) (fun hf => ?_)
        · refine lv_iconst (v := (3 : Int32)) F.1.1 F.1.2.1 dX3_faultOfCells_39 (by decide) ?_
          exact retI F hP hS dX3_faultOfCells_40 hf
        · refine lv_iload_n F.1.1 F.1.2.1 dX3_faultOfCells_25 rfl (lv_at hl 2 rfl) ?_
          refine lv_aload_n F.1.1 F.1.2.1 dX3_faultOfCells_26 rfl (lv_at hl 0 rfl) ?_
          refine gt_3_3 F hP t st inX3_faultOfCells_3 kX3_faultOfCells_32 dX3_faultOfCells_27 ?_
          refine lv_iload_n F.1.1 F.1.2.1 dX3_faultOfCells_30 rfl (lv_at hl 1 rfl) ?_
          refine lv_isub F.1.1 F.1.2.1 dX3_faultOfCells_31 ?_
          refine jc_gt (tgt := 39) F dX3_faultOfCells_32 (by decide) hf (fun hf => ?_) (fun hf => ?_)
          · refine lv_iconst (v := (3 : Int32)) F.1.1 F.1.2.1 dX3_faultOfCells_39 (by decide) ?_
            exact retI F hP hS dX3_faultOfCells_40 hf
          · refine lv_iconst (v := (0 : Int32)) F.1.1 F.1.2.1 dX3_faultOfCells_35 (by decide) ?_
            refine lv_goto (tgt := 40) F.1.1 F.1.2.1 dX3_faultOfCells_36 (by decide) ?_
            exact retI F hP hS dX3_faultOfCells_40 hf
  · refine lv_iconst (v := (1 : Int32)) F.1.1 F.1.2.1 dX3_faultOfCells_7 (by decide) ?_
    exact retI F hP hS dX3_faultOfCells_8 hf
abbrev rmX5_failed : Room := { frames := 0, cells := 0, slots := 0, locals := 0 }
theorem hdX5_failed : yX5_failed.cls = RX5 ∧ yX5_failed.cls ≠ "java/lang/invoke/MethodHandle" ∧ yX5_failed.cls ≠ "java/lang/invoke/VarHandle" ∧ (parseMethodDescriptor yX5_failed.desc).map (fun d => d.parameters.length) = some 1 := by decide +kernel
theorem kX5_failed_42 : Cond.fieldLink RX5 42 "PaperLayers" "latestFault" "I" ∈ wsX5_failed := List.mem_cons_of_mem _ (List.mem_append_left _ (List.mem_of_getElem? (i := 0) rfl))
theorem inX5_failed_5 : ∀ w ∈ wsX50, w ∈ wsX5_failed := fun _ h => List.mem_cons_of_mem _ (List.mem_append_right _ (h))
set_option maxHeartbeats 4000000 in
set_option maxRecDepth 100000 in
theorem mX5_failed (l : Launch) (G : GT) (hG : GD G) (x1 : Int32) (μ : Mem) (r : Int32) (μ' : Mem) (hf : fX5_failed x1 μ = some (r, μ')) : Ct l yX5_failed wsX5_failed rmX5_failed G [.ref (ga G 0), .int x1] μ (some (.int r)) μ' := by
  refine Ct.of (cc := cX5_failed) (maxL := 2) (ret := (some .int)) (own := RX5) hG (by decide) rfl rfl (Nat.le_of_ble_eq_true rfl) ?_
  intro p e s m args below meth c ls H locs F hl hP hS
  have hl : lv_has ls 2 [(0, .ref (ga G 0)), (1, .int x1)] := hl
  unfold fX5_failed at hf
  refine lv_aload_n F.1.1 F.1.2.1 dX5_failed_0 rfl (lv_at hl 0 rfl) ?_
  refine lv_iload_n F.1.1 F.1.2.1 dX5_failed_1 rfl (lv_at hl 1 rfl) ?_
  refine pt_5_6 F hP hS 0 rfl inX5_failed_5 kX5_failed_42 dX5_failed_2 hf (fun μ_1 H locs hP hS hf => ?_)
  refine lv_bipush (v := (-10 : Int32)) F.1.1 F.1.2.1 dX5_failed_5 (by decide) ?_
  refine lv_iload_n F.1.1 F.1.2.1 dX5_failed_7 rfl (lv_at hl 1 rfl) ?_
  refine lv_isub F.1.1 F.1.2.1 dX5_failed_8 ?_
  exact retI F hP hS dX5_failed_9 hf
abbrev rmX3_getCell : Room := { frames := 0, cells := 0, slots := 0, locals := 0 }
theorem hdX3_getCell : yX3_getCell.cls = RX3 ∧ yX3_getCell.cls ≠ "java/lang/invoke/MethodHandle" ∧ yX3_getCell.cls ≠ "java/lang/invoke/VarHandle" ∧ (parseMethodDescriptor yX3_getCell.desc).map (fun d => d.parameters.length) = some 1 := by decide +kernel
theorem kX3_getCell_32 : Cond.fieldLink RX3 32 "PaperLayers$Sheet" "length" "I" ∈ wsX3_getCell := List.mem_cons_of_mem _ (List.mem_append_left _ (List.mem_of_getElem? (i := 0) rfl))
theorem kX3_getCell_9 : Cond.fieldLink RX3 9 "PaperLayers$Sheet" "cells" "[I" ∈ wsX3_getCell := List.mem_cons_of_mem _ (List.mem_append_left _ (List.mem_of_getElem? (i := 1) rfl))
theorem inX3_getCell_3 : ∀ w ∈ wsX30, w ∈ wsX3_getCell := fun _ h => List.mem_cons_of_mem _ (List.mem_append_right _ (h))
set_option maxHeartbeats 4000000 in
set_option maxRecDepth 100000 in
theorem mX3_getCell (l : Launch) (G : GT) (hG : GD G) (t : Nat) (st : sh t = 3) (x1 : Int32) (μ : Mem) (r : Int32) (μ' : Mem) (hf : fX3_getCell t x1 μ = some (r, μ')) : Ct l yX3_getCell wsX3_getCell rmX3_getCell G [.ref (ga G t), .int x1] μ (some (.int r)) μ' := by
  refine Ct.of (cc := cX3_getCell) (maxL := 2) (ret := (some .int)) (own := RX3) hG (by decide) rfl rfl (Nat.le_of_ble_eq_true rfl) ?_
  intro p e s m args below meth c ls H locs F hl hP hS
  have hl : lv_has ls 2 [(0, .ref (ga G t)), (1, .int x1)] := hl
  unfold fX3_getCell at hf
  refine lv_iload_n F.1.1 F.1.2.1 dX3_getCell_0 rfl (lv_at hl 1 rfl) ?_
  refine jz_lt (tgt := 21) F dX3_getCell_1 (by decide) hf (fun hf => ?_) (fun hf => ?_)
  · refine lv_iconst (v := (0 : Int32)) F.1.1 F.1.2.1 dX3_getCell_21 (by decide) ?_
    exact retI F hP hS dX3_getCell_22 hf
  · refine lv_iload_n F.1.1 F.1.2.1 dX3_getCell_4 rfl (lv_at hl 1 rfl) ?_
    refine lv_aload_n F.1.1 F.1.2.1 dX3_getCell_5 rfl (lv_at hl 0 rfl) ?_
    refine gt_3_3 F hP t st inX3_getCell_3 kX3_getCell_32 dX3_getCell_6 ?_
    refine jc_ge (tgt := 21) F dX3_getCell_9 (by decide) hf (fun hf => ?_) (fun hf => ?_)
    · refine lv_iconst (v := (0 : Int32)) F.1.1 F.1.2.1 dX3_getCell_21 (by decide) ?_
      exact retI F hP hS dX3_getCell_22 hf
    · refine lv_aload_n F.1.1 F.1.2.1 dX3_getCell_12 rfl (lv_at hl 0 rfl) ?_
      refine gt_3_0 F hP t st inX3_getCell_3 kX3_getCell_9 dX3_getCell_13 (fun s_1 n_2 => ?_)
      refine lv_iload_n F.1.1 F.1.2.1 dX3_getCell_16 rfl (lv_at hl 1 rfl) ?_
      refine r_ial F hP (t + 4) s_1 n_2 dX3_getCell_17 hf (fun hf => ?_)
      refine lv_goto (tgt := 22) F.1.1 F.1.2.1 dX3_getCell_18 (by decide) ?_
      exact retI F hP hS dX3_getCell_22 hf
abbrev rmX5_isDigit : Room := { frames := 0, cells := 0, slots := 0, locals := 0 }
theorem hdX5_isDigit : yX5_isDigit.cls ≠ "java/lang/invoke/MethodHandle" ∧ yX5_isDigit.cls ≠ "java/lang/invoke/VarHandle" ∧ (parseMethodDescriptor yX5_isDigit.desc).map (fun d => d.parameters.length) = some 1 := by decide +kernel
set_option maxHeartbeats 4000000 in
set_option maxRecDepth 100000 in
theorem mX5_isDigit (l : Launch) (G : GT) (hG : GD G) (x0 : Int32) (μ : Mem) (r : Int32) (μ' : Mem) (hf : fX5_isDigit x0 μ = some (r, μ')) : Ct l yX5_isDigit wsX5_isDigit rmX5_isDigit G [.int x0] μ (some (.int r)) μ' := by
  refine Ct.of (cc := cX5_isDigit) (maxL := 1) (ret := (some .boolean)) (own := RX5) hG (by decide) rfl rfl (Nat.le_of_ble_eq_true rfl) ?_
  intro p e s m args below meth c ls H locs F hl hP hS
  have hl : lv_has ls 1 [(0, .int x0)] := hl
  unfold fX5_isDigit at hf
  refine lv_iload_n F.1.1 F.1.2.1 dX5_isDigit_0 rfl (lv_at hl 0 rfl) ?_
  refine lv_bipush (v := (48 : Int32)) F.1.1 F.1.2.1 dX5_isDigit_1 (by decide) ?_
  refine jc_lt (tgt := 16) F dX5_isDigit_3 (by decide) hf (fun hf => ?_) (fun hf => ?_)
  · refine lv_iconst (v := (0 : Int32)) F.1.1 F.1.2.1 dX5_isDigit_16 (by decide) ?_
    exact retC F hP hS dX5_isDigit_17 (by decide) hf
  · refine lv_iload_n F.1.1 F.1.2.1 dX5_isDigit_6 rfl (lv_at hl 0 rfl) ?_
    refine lv_bipush (v := (57 : Int32)) F.1.1 F.1.2.1 dX5_isDigit_7 (by decide) ?_
    refine jc_gt (tgt := 16) F dX5_isDigit_9 (by decide) hf (fun hf => ?_) (fun hf => ?_)
    · refine lv_iconst (v := (0 : Int32)) F.1.1 F.1.2.1 dX5_isDigit_16 (by decide) ?_
      exact retC F hP hS dX5_isDigit_17 (by decide) hf
    · refine lv_iconst (v := (1 : Int32)) F.1.1 F.1.2.1 dX5_isDigit_12 (by decide) ?_
      refine lv_goto (tgt := 17) F.1.1 F.1.2.1 dX5_isDigit_13 (by decide) ?_
      exact retC F hP hS dX5_isDigit_17 (by decide) hf
abbrev rmX5_kindOf : Room := { frames := 0, cells := 0, slots := 0, locals := 0 }
theorem hdX5_kindOf : yX5_kindOf.cls ≠ "java/lang/invoke/MethodHandle" ∧ yX5_kindOf.cls ≠ "java/lang/invoke/VarHandle" ∧ (parseMethodDescriptor yX5_kindOf.desc).map (fun d => d.parameters.length) = some 1 := by decide +kernel
set_option maxHeartbeats 4000000 in
set_option maxRecDepth 100000 in
theorem mX5_kindOf (l : Launch) (G : GT) (hG : GD G) (x0 : Int32) (μ : Mem) (r : Int32) (μ' : Mem) (hf : fX5_kindOf x0 μ = some (r, μ')) : Ct l yX5_kindOf wsX5_kindOf rmX5_kindOf G [.int x0] μ (some (.int r)) μ' := by
  refine Ct.of (cc := cX5_kindOf) (maxL := 1) (ret := (some .int)) (own := RX5) hG (by decide) rfl rfl (Nat.le_of_ble_eq_true rfl) ?_
  intro p e s m args below meth c ls H locs F hl hP hS
  have hl : lv_has ls 1 [(0, .int x0)] := hl
  unfold fX5_kindOf at hf
  refine lv_iload_n F.1.1 F.1.2.1 dX5_kindOf_0 rfl (lv_at hl 0 rfl) ?_
  refine split_sw (k := (114 : Int32)) hf (fun hk0 hf => ?_) (fun hn0 hf => ?_)
  · refine lv_tableIn (tgt := 32) (off := 31) F.1.1 F.1.2.1 dX5_kindOf_1 (by rw [hk0]; decide) (by rw [hk0]; decide) (by rw [hk0]; rfl) (by decide) ?_
    refine lv_iconst (v := (2 : Int32)) F.1.1 F.1.2.1 dX5_kindOf_32 (by decide) ?_
    exact retI F hP hS dX5_kindOf_33 hf
  refine split_sw (k := (115 : Int32)) hf (fun hk1 hf => ?_) (fun hn1 hf => ?_)
  · refine lv_tableIn (tgt := 28) (off := 27) F.1.1 F.1.2.1 dX5_kindOf_1 (by rw [hk1]; decide) (by rw [hk1]; decide) (by rw [hk1]; rfl) (by decide) ?_
    refine lv_iconst (v := (0 : Int32)) F.1.1 F.1.2.1 dX5_kindOf_28 (by decide) ?_
    exact retI F hP hS dX5_kindOf_29 hf
  refine split_sw (k := (116 : Int32)) hf (fun hk2 hf => ?_) (fun hn2 hf => ?_)
  · refine lv_tableIn (tgt := 30) (off := 29) F.1.1 F.1.2.1 dX5_kindOf_1 (by rw [hk2]; decide) (by rw [hk2]; decide) (by rw [hk2]; rfl) (by decide) ?_
    refine lv_iconst (v := (1 : Int32)) F.1.1 F.1.2.1 dX5_kindOf_30 (by decide) ?_
    exact retI F hP hS dX5_kindOf_31 hf
  refine lv_tableOut (tgt := 34) F.1.1 F.1.2.1 dX5_kindOf_1 (by have q0 := lv_neT hn0 (a := 114) (by decide); have q1 := lv_neT hn1 (a := 115) (by decide); have q2 := lv_neT hn2 (a := 116) (by decide); omega) (by decide) ?_
  refine lv_bipush (v := (-9 : Int32)) F.1.1 F.1.2.1 dX5_kindOf_34 (by decide) ?_
  exact retI F hP hS dX5_kindOf_36 hf
abbrev rmX5_goesOn : Room := { frames := 1, cells := 0, slots := 0, locals := 20 }
theorem hdX5_goesOn : yX5_goesOn.cls ≠ "java/lang/invoke/MethodHandle" ∧ yX5_goesOn.cls ≠ "java/lang/invoke/VarHandle" ∧ (parseMethodDescriptor yX5_goesOn.desc).map (fun d => d.parameters.length) = some 2 := by decide +kernel
set_option maxHeartbeats 4000000 in
set_option maxRecDepth 100000 in
theorem mX5_goesOn (l : Launch) (G : GT) (hG : GD G) (x0 : Int32) (x1 : Int32) (μ : Mem) (r : Int32) (μ' : Mem) (hf : fX5_goesOn x0 x1 μ = some (r, μ')) : Ct l yX5_goesOn wsX5_goesOn rmX5_goesOn G [.int x0, .int x1] μ (some (.int r)) μ' := by
  refine Ct.of (cc := cX5_goesOn) (maxL := 3) (ret := (some .boolean)) (own := RX5) hG (by decide) rfl rfl (Nat.le_of_ble_eq_true rfl) ?_
  intro p e s m args below meth c ls H locs F hl hP hS
  have hl : lv_has ls 3 [(0, .int x0), (1, .int x1)] := hl
  unfold fX5_goesOn at hf
  refine lv_iload_n F.1.1 F.1.2.1 dX5_goesOn_0 rfl (lv_at hl 0 rfl) ?_
  refine jz_ne (tgt := 16) F dX5_goesOn_1 (by decide) hf (fun hf => ?_) (fun hf => ?_)
  · refine lv_iload_n F.1.1 F.1.2.1 dX5_goesOn_16 rfl (lv_at hl 0 rfl) ?_
    refine lv_iconst (v := (3 : Int32)) F.1.1 F.1.2.1 dX5_goesOn_17 (by decide) ?_
    refine jc_ge (tgt := 26) F dX5_goesOn_18 (by decide) hf (fun hf => ?_) (fun hf => ?_)
    · refine lv_iload_n F.1.1 F.1.2.1 dX5_goesOn_26 rfl (lv_at hl 0 rfl) ?_
      refine lv_iconst (v := (3 : Int32)) F.1.1 F.1.2.1 dX5_goesOn_27 (by decide) ?_
      refine lv_isub F.1.1 F.1.2.1 dX5_goesOn_28 ?_
      refine lv_iconst (v := (4 : Int32)) F.1.1 F.1.2.1 dX5_goesOn_29 (by decide) ?_
      refine r_rem F dX5_goesOn_30 hf (fun hf => ?_)
      refine top_i hf (fun y_1 hf => ?_)
      refine lv_istore_n (lv' := [(2, .int y_1), (0, .int x0), (1, .int x1)]) F.1.1 F.1.2.1 dX5_goesOn_31 rfl hl (by decide) rfl (fun ls hl => ?_)
      refine lv_iload_n F.1.1 F.1.2.1 dX5_goesOn_32 rfl (lv_at hl 0 rfl) ?_
      refine jz_ne (tgt := 58) F dX5_goesOn_33 (by decide) hf (fun hf => ?_) (fun hf => ?_)
      · refine lv_iload_n F.1.1 F.1.2.1 dX5_goesOn_58 rfl (lv_at hl 0 rfl) ?_
        refine lv_iconst (v := (1 : Int32)) F.1.1 F.1.2.1 dX5_goesOn_59 (by decide) ?_
        refine jc_ne (tgt := 80) F dX5_goesOn_60 (by decide) hf (fun hf => ?_) (fun hf => ?_)
        · refine lv_iload_n F.1.1 F.1.2.1 dX5_goesOn_80 rfl (lv_at hl 2 rfl) ?_
          obtain ⟨r_4, μ_2, hc_3, hf⟩ := bnd_some hf
          refine rS1 (R := rmX5_goesOn) (As := [.int x1]) (rest := []) F hP hS hl (mX5_isDigit l G F.2.2.2.2 x1 _ _ _ hc_3) gX5_goesOn_X5_isDigit hdX5_isDigit rfl rfl rfl ⟨Nat.le_of_ble_eq_true rfl, Nat.le_of_ble_eq_true rfl⟩ rfl rfl (Nat.le_of_ble_eq_true rfl) ⟨Nat.le_of_ble_eq_true rfl, Nat.le_of_ble_eq_true rfl⟩ dX5_goesOn_81 (fun H locs hP hS => ?_)
          exact retZ F hP hS dX5_goesOn_84 hf
        · refine lv_iload_n F.1.1 F.1.2.1 dX5_goesOn_63 rfl (lv_at hl 2 rfl) ?_
          obtain ⟨r_7, μ_5, hc_6, hf⟩ := bnd_some hf
          refine rS1 (R := rmX5_goesOn) (As := [.int x1]) (rest := []) F hP hS hl (mX5_kindOf l G F.2.2.2.2 x1 _ _ _ hc_6) gX5_goesOn_X5_kindOf hdX5_kindOf rfl rfl rfl ⟨Nat.le_of_ble_eq_true rfl, Nat.le_of_ble_eq_true rfl⟩ rfl rfl (Nat.le_of_ble_eq_true rfl) ⟨Nat.le_of_ble_eq_true rfl, Nat.le_of_ble_eq_true rfl⟩ dX5_goesOn_64 (fun H locs hP hS => ?_)
          refine lv_bipush (v := (-9 : Int32)) F.1.1 F.1.2.1 dX5_goesOn_67 (by decide) ?_
          refine jc_eq (tgt := 76) F dX5_goesOn_69 (by decide) hf (fun hf => ?_) (fun hf => ?_)
          · refine lv_iconst (v := (0 : Int32)) F.1.1 F.1.2.1 dX5_goesOn_76 (by decide) ?_
            refine lv_goto (tgt := 84) F.1.1 F.1.2.1 dX5_goesOn_77 (by decide) ?_
            exact retC F hP hS dX5_goesOn_84 (by decide) hf
          · refine lv_iconst (v := (1 : Int32)) F.1.1 F.1.2.1 dX5_goesOn_72 (by decide) ?_
            refine lv_goto (tgt := 84) F.1.1 F.1.2.1 dX5_goesOn_73 (by decide) ?_
            exact retC F hP hS dX5_goesOn_84 (by decide) hf
      · refine lv_iload_n F.1.1 F.1.2.1 dX5_goesOn_36 rfl (lv_at hl 2 rfl) ?_
        refine lv_bipush (v := (59 : Int32)) F.1.1 F.1.2.1 dX5_goesOn_37 (by decide) ?_
        refine jc_ne (tgt := 56) F dX5_goesOn_39 (by decide) hf (fun hf => ?_) (fun hf => ?_)
        · refine lv_iconst (v := (0 : Int32)) F.1.1 F.1.2.1 dX5_goesOn_56 (by decide) ?_
          exact retC F hP hS dX5_goesOn_57 (by decide) hf
        · refine lv_iload_n F.1.1 F.1.2.1 dX5_goesOn_42 rfl (lv_at hl 1 rfl) ?_
          refine lv_iconst (v := (3 : Int32)) F.1.1 F.1.2.1 dX5_goesOn_43 (by decide) ?_
          refine lv_isub F.1.1 F.1.2.1 dX5_goesOn_44 ?_
          refine lv_iconst (v := (4 : Int32)) F.1.1 F.1.2.1 dX5_goesOn_45 (by decide) ?_
          refine r_div F dX5_goesOn_46 hf (fun hf => ?_)
          refine lv_bipush (v := (6 : Int32)) F.1.1 F.1.2.1 dX5_goesOn_47 (by decide) ?_
          refine jc_ge (tgt := 56) F dX5_goesOn_49 (by decide) hf (fun hf => ?_) (fun hf => ?_)
          · refine lv_iconst (v := (0 : Int32)) F.1.1 F.1.2.1 dX5_goesOn_56 (by decide) ?_
            exact retC F hP hS dX5_goesOn_57 (by decide) hf
          · refine lv_iconst (v := (1 : Int32)) F.1.1 F.1.2.1 dX5_goesOn_52 (by decide) ?_
            refine lv_goto (tgt := 57) F.1.1 F.1.2.1 dX5_goesOn_53 (by decide) ?_
            exact retC F hP hS dX5_goesOn_57 (by decide) hf
    · refine lv_iload_n F.1.1 F.1.2.1 dX5_goesOn_21 rfl (lv_at hl 1 rfl) ?_
      obtain ⟨r_10, μ_8, hc_9, hf⟩ := bnd_some hf
      refine rS1 (R := rmX5_goesOn) (As := [.int x1]) (rest := []) F hP hS hl (mX5_isDigit l G F.2.2.2.2 x1 _ _ _ hc_9) gX5_goesOn_X5_isDigit hdX5_isDigit rfl rfl rfl ⟨Nat.le_of_ble_eq_true rfl, Nat.le_of_ble_eq_true rfl⟩ rfl rfl (Nat.le_of_ble_eq_true rfl) ⟨Nat.le_of_ble_eq_true rfl, Nat.le_of_ble_eq_true rfl⟩ dX5_goesOn_22 (fun H locs hP hS => ?_)
      exact retZ F hP hS dX5_goesOn_25 hf
  · refine lv_iload_n F.1.1 F.1.2.1 dX5_goesOn_4 rfl (lv_at hl 1 rfl) ?_
    refine lv_bipush (v := (119 : Int32)) F.1.1 F.1.2.1 dX5_goesOn_5 (by decide) ?_
    refine jc_ne (tgt := 14) F dX5_goesOn_7 (by decide) hf (fun hf => ?_) (fun hf => ?_)
    · refine lv_iconst (v := (0 : Int32)) F.1.1 F.1.2.1 dX5_goesOn_14 (by decide) ?_
      exact retC F hP hS dX5_goesOn_15 (by decide) hf
    · refine lv_iconst (v := (1 : Int32)) F.1.1 F.1.2.1 dX5_goesOn_10 (by decide) ?_
      refine lv_goto (tgt := 15) F.1.1 F.1.2.1 dX5_goesOn_11 (by decide) ?_
      exact retC F hP hS dX5_goesOn_15 (by decide) hf
abbrev rmX5_firstFault : Room := { frames := 2, cells := 0, slots := 0, locals := 42 }
theorem hdX5_firstFault : yX5_firstFault.cls ≠ "java/lang/invoke/MethodHandle" ∧ yX5_firstFault.cls ≠ "java/lang/invoke/VarHandle" ∧ (parseMethodDescriptor yX5_firstFault.desc).map (fun d => d.parameters.length) = some 3 := by decide +kernel
set_option maxHeartbeats 4000000 in
set_option maxRecDepth 100000 in
theorem lX5_firstFault_L2 (l : Launch) (G : GT) {p : Program} {e : Env} {s : State} {m : MethodId} {args : Array Value} {below : List Frame} {meth : Method} {c : Code} (F : Fx p s m args meth c cX5_firstFault 4 wsX5_firstFault RX5 (some .int) G) (j0 : Nat) (sj0 : sh j0 = 3) (x1 : Int32) (x2 : Int32) (r : Int32) (μ' : Mem) : ∀ (fuel : Nat), ∀ (x3 : Int32) (μ : Mem) (H : Heap) (locs : List Loc) (ls : Array Slot), Hh G μ H → va_S (gA G) s.heap H locs → lv_has ls 4 [(0, .ref (ga G j0)), (1, .int x1), (2, .int x2), (3, .int x3)] → fX5_firstFault_L2 j0 x1 x2 fuel x3 μ = some (r, μ') → W p l e rmX5_firstFault s m args below meth c H locs 0 0 (MQ below (Qg G (some (.int r)) μ') args s 0 0 (gA G)) (F0 m 2 ls []) := by
  intro fuel
  induction fuel with
  | zero =>
    intro x3 μ H locs ls hP hS hl hf
    exact absurd hf (by intro h; cases h)
  | succ fuel ih2 =>
    intro x3 μ H locs ls hP hS hl hf
    have hf : sX5_firstFault_L2 (fX5_firstFault_L2 j0 x1 x2 fuel) j0 x1 x2 x3 μ = some (r, μ') := hf
    unfold sX5_firstFault_L2 at hf
    refine lv_iload_n F.1.1 F.1.2.1 dX5_firstFault_2 rfl (lv_at hl 3 rfl) ?_
    refine lv_iload_n F.1.1 F.1.2.1 dX5_firstFault_3 rfl (lv_at hl 2 rfl) ?_
    refine jc_ge (tgt := 29) F dX5_firstFault_4 (by decide) hf (fun hf => ?_) (fun hf => ?_)
    · refine lv_iload_n F.1.1 F.1.2.1 dX5_firstFault_29 rfl (lv_at hl 2 rfl) ?_
      refine lv_bipush (v := (11 : Int32)) F.1.1 F.1.2.1 dX5_firstFault_30 (by decide) ?_
      refine jc_lt (tgt := 47) F dX5_firstFault_32 (by decide) hf (fun hf => ?_) (fun hf => ?_)
      · refine lv_iconst (v := (0 : Int32)) F.1.1 F.1.2.1 dX5_firstFault_47 (by decide) ?_
        refine lv_istore_n (lv' := [(3, .int (0 : Int32)), (0, .ref (ga G j0)), (1, .int x1), (2, .int x2)]) F.1.1 F.1.2.1 dX5_firstFault_48 rfl hl (by decide) rfl (fun ls hl => ?_)
        refine lv_iload_n F.1.1 F.1.2.1 dX5_firstFault_49 rfl (lv_at hl 0 rfl) ?_
        refine lv_if_eq (tgt := 57) F.1.1 F.1.2.1 dX5_firstFault_50 (by decide) (fun _ => ?_) (fun h => absurd (by decide) h)
        refine lv_iload_n F.1.1 F.1.2.1 dX5_firstFault_57 rfl (lv_at hl 3 rfl) ?_
        exact retI F hP hS dX5_firstFault_58 hf
      · refine lv_iload_n F.1.1 F.1.2.1 dX5_firstFault_35 rfl (lv_at hl 2 rfl) ?_
        refine lv_iconst (v := (3 : Int32)) F.1.1 F.1.2.1 dX5_firstFault_36 (by decide) ?_
        refine lv_isub F.1.1 F.1.2.1 dX5_firstFault_37 ?_
        refine lv_iconst (v := (4 : Int32)) F.1.1 F.1.2.1 dX5_firstFault_38 (by decide) ?_
        refine r_rem F dX5_firstFault_39 hf (fun hf => ?_)
        refine jz_ne (tgt := 47) F dX5_firstFault_40 (by decide) hf (fun hf => ?_) (fun hf => ?_)
        · refine lv_iconst (v := (0 : Int32)) F.1.1 F.1.2.1 dX5_firstFault_47 (by decide) ?_
          refine lv_istore_n (lv' := [(3, .int (0 : Int32)), (0, .ref (ga G j0)), (1, .int x1), (2, .int x2)]) F.1.1 F.1.2.1 dX5_firstFault_48 rfl hl (by decide) rfl (fun ls hl => ?_)
          refine lv_iload_n F.1.1 F.1.2.1 dX5_firstFault_49 rfl (lv_at hl 0 rfl) ?_
          refine lv_if_eq (tgt := 57) F.1.1 F.1.2.1 dX5_firstFault_50 (by decide) (fun _ => ?_) (fun h => absurd (by decide) h)
          refine lv_iload_n F.1.1 F.1.2.1 dX5_firstFault_57 rfl (lv_at hl 3 rfl) ?_
          exact retI F hP hS dX5_firstFault_58 hf
        · refine lv_iconst (v := (1 : Int32)) F.1.1 F.1.2.1 dX5_firstFault_43 (by decide) ?_
          refine lv_goto (tgt := 48) F.1.1 F.1.2.1 dX5_firstFault_44 (by decide) ?_
          refine lv_istore_n (lv' := [(3, .int (1 : Int32)), (0, .ref (ga G j0)), (1, .int x1), (2, .int x2)]) F.1.1 F.1.2.1 dX5_firstFault_48 rfl hl (by decide) rfl (fun ls hl => ?_)
          refine lv_iload_n F.1.1 F.1.2.1 dX5_firstFault_49 rfl (lv_at hl 0 rfl) ?_
          refine lv_if_eq (tgt := 57) F.1.1 F.1.2.1 dX5_firstFault_50 (by decide) (fun h => absurd h (by decide)) (fun _ => ?_)
          refine lv_iconst (v := (-1 : Int32)) F.1.1 F.1.2.1 dX5_firstFault_53 (by decide) ?_
          refine lv_goto (tgt := 58) F.1.1 F.1.2.1 dX5_firstFault_54 (by decide) ?_
          exact retI F hP hS dX5_firstFault_58 hf
    · refine lv_iload_n F.1.1 F.1.2.1 dX5_firstFault_7 rfl (lv_at hl 3 rfl) ?_
      refine lv_aload_n F.1.1 F.1.2.1 dX5_firstFault_8 rfl (lv_at hl 0 rfl) ?_
      refine lv_iload_n F.1.1 F.1.2.1 dX5_firstFault_9 rfl (lv_at hl 1 rfl) ?_
      refine lv_iload_n F.1.1 F.1.2.1 dX5_firstFault_10 rfl (lv_at hl 3 rfl) ?_
      refine lv_iadd F.1.1 F.1.2.1 dX5_firstFault_11 ?_
      obtain ⟨r_3, μ_1, hc_2, hf⟩ := bnd_some hf
      refine rV1 (R := rmX5_firstFault) (As := [.int (x1 + x3)]) (rest := [.int x3]) F hP hS hl (mX3_getCell l G F.2.2.2.2 j0 sj0 (x1 + x3) _ _ _ hc_2) gX5_firstFault_X3_getCell sj0 hdX3_getCell rfl rfl rfl ⟨Nat.le_of_ble_eq_true rfl, Nat.le_of_ble_eq_true rfl⟩ (by decide) rfl rfl rfl (Nat.le_of_ble_eq_true rfl) ⟨Nat.le_of_ble_eq_true rfl, Nat.le_of_ble_eq_true rfl⟩ dX5_firstFault_12 (fun H locs hP hS => ?_)
      obtain ⟨r_6, μ_4, hc_5, hf⟩ := bnd_some hf
      refine rS1 (R := rmX5_firstFault) (As := [.int x3, .int r_3]) (rest := []) F hP hS hl (mX5_goesOn l G F.2.2.2.2 x3 r_3 _ _ _ hc_5) gX5_firstFault_X5_goesOn hdX5_goesOn rfl rfl rfl ⟨Nat.le_of_ble_eq_true rfl, Nat.le_of_ble_eq_true rfl⟩ rfl rfl (Nat.le_of_ble_eq_true rfl) ⟨Nat.le_of_ble_eq_true rfl, Nat.le_of_ble_eq_true rfl⟩ dX5_firstFault_15 (fun H locs hP hS => ?_)
      refine jz_ne (tgt := 23) F dX5_firstFault_18 (by decide) hf (fun hf => ?_) (fun hf => ?_)
      · refine top_n hf (fun y_7 ey_7 hf => ?_)
        refine lv_iinc (v := y_7) (lv' := [(3, .int y_7), (0, .ref (ga G j0)), (1, .int x1), (2, .int x2)]) F.1.1 F.1.2.1 dX5_firstFault_23 hl (k := 3) rfl ey_7 (by decide) rfl (fun ls hl => ?_)
        refine lv_goto (tgt := 2) F.1.1 F.1.2.1 dX5_firstFault_26 (by decide) ?_
        exact ih2 y_7 μ_4 H locs ls hP hS (lv_sub hl [1, 2, 3, 0] rfl) hf
      · refine lv_iload_n F.1.1 F.1.2.1 dX5_firstFault_21 rfl (lv_at hl 3 rfl) ?_
        exact retI F hP hS dX5_firstFault_22 hf
set_option maxHeartbeats 4000000 in
set_option maxRecDepth 100000 in
theorem mX5_firstFault (l : Launch) (G : GT) (hG : GD G) (j0 : Nat) (sj0 : sh j0 = 3) (x1 : Int32) (x2 : Int32) (μ : Mem) (r : Int32) (μ' : Mem) (hf : fX5_firstFault j0 x1 x2 μ = some (r, μ')) : Ct l yX5_firstFault wsX5_firstFault rmX5_firstFault G [.ref (ga G j0), .int x1, .int x2] μ (some (.int r)) μ' := by
  refine Ct.of (cc := cX5_firstFault) (maxL := 4) (ret := (some .int)) (own := RX5) hG (by decide) rfl rfl (Nat.le_of_ble_eq_true rfl) ?_
  intro p e s m args below meth c ls H locs F hl hP hS
  have hl : lv_has ls 4 [(0, .ref (ga G j0)), (1, .int x1), (2, .int x2)] := hl
  unfold fX5_firstFault at hf
  refine lv_iconst (v := (0 : Int32)) F.1.1 F.1.2.1 dX5_firstFault_0 (by decide) ?_
  refine lv_istore_n (lv' := [(3, .int (0 : Int32)), (0, .ref (ga G j0)), (1, .int x1), (2, .int x2)]) F.1.1 F.1.2.1 dX5_firstFault_1 rfl hl (by decide) rfl (fun ls hl => ?_)
  exact lX5_firstFault_L2 l G F j0 sj0 x1 x2 _ _ FU (0 : Int32) μ H locs ls hP hS (lv_sub hl [1, 2, 3, 0] rfl) hf
abbrev rmX4_digitAt : Room := { frames := 1, cells := 0, slots := 0, locals := 21 }
theorem hdX4_digitAt : yX4_digitAt.cls ≠ "java/lang/invoke/MethodHandle" ∧ yX4_digitAt.cls ≠ "java/lang/invoke/VarHandle" ∧ (parseMethodDescriptor yX4_digitAt.desc).map (fun d => d.parameters.length) = some 2 := by decide +kernel
set_option maxHeartbeats 4000000 in
set_option maxRecDepth 100000 in
theorem mX4_digitAt (l : Launch) (G : GT) (hG : GD G) (j0 : Nat) (sj0 : sh j0 = 3) (x1 : Int32) (μ : Mem) (r : Int32) (μ' : Mem) (hf : fX4_digitAt j0 x1 μ = some (r, μ')) : Ct l yX4_digitAt wsX4_digitAt rmX4_digitAt G [.ref (ga G j0), .int x1] μ (some (.int r)) μ' := by
  refine Ct.of (cc := cX4_digitAt) (maxL := 2) (ret := (some .int)) (own := RX4) hG (by decide) rfl rfl (Nat.le_of_ble_eq_true rfl) ?_
  intro p e s m args below meth c ls H locs F hl hP hS
  have hl : lv_has ls 2 [(0, .ref (ga G j0)), (1, .int x1)] := hl
  unfold fX4_digitAt at hf
  refine lv_aload_n F.1.1 F.1.2.1 dX4_digitAt_0 rfl (lv_at hl 0 rfl) ?_
  refine lv_iload_n F.1.1 F.1.2.1 dX4_digitAt_1 rfl (lv_at hl 1 rfl) ?_
  obtain ⟨r_3, μ_1, hc_2, hf⟩ := bnd_some hf
  refine rV1 (R := rmX4_digitAt) (As := [.int x1]) (rest := []) F hP hS hl (mX3_getCell l G F.2.2.2.2 j0 sj0 x1 _ _ _ hc_2) gX4_digitAt_X3_getCell sj0 hdX3_getCell rfl rfl rfl ⟨Nat.le_of_ble_eq_true rfl, Nat.le_of_ble_eq_true rfl⟩ (by decide) rfl rfl rfl (Nat.le_of_ble_eq_true rfl) ⟨Nat.le_of_ble_eq_true rfl, Nat.le_of_ble_eq_true rfl⟩ dX4_digitAt_2 (fun H locs hP hS => ?_)
  refine lv_bipush (v := (48 : Int32)) F.1.1 F.1.2.1 dX4_digitAt_5 (by decide) ?_
  refine lv_isub F.1.1 F.1.2.1 dX4_digitAt_7 ?_
  exact retI F hP hS dX4_digitAt_8 hf
abbrev rmX4_begin : Room := { frames := 0, cells := 0, slots := 0, locals := 0 }
theorem hdX4_begin : yX4_begin.cls = RX4 ∧ yX4_begin.cls ≠ "java/lang/invoke/MethodHandle" ∧ yX4_begin.cls ≠ "java/lang/invoke/VarHandle" ∧ (parseMethodDescriptor yX4_begin.desc).map (fun d => d.parameters.length) = some 2 := by decide +kernel
theorem kX4_begin_18 : Cond.fieldLink RX4 18 "PaperLayers$Wall" "count" "I" ∈ wsX4_begin := List.mem_cons_of_mem _ (List.mem_append_left _ (List.mem_of_getElem? (i := 0) rfl))
theorem kX4_begin_22 : Cond.fieldLink RX4 22 "PaperLayers$Wall" "warm" "I" ∈ wsX4_begin := List.mem_cons_of_mem _ (List.mem_append_left _ (List.mem_of_getElem? (i := 1) rfl))
theorem kX4_begin_25 : Cond.fieldLink RX4 25 "PaperLayers$Wall" "damp" "I" ∈ wsX4_begin := List.mem_cons_of_mem _ (List.mem_append_left _ (List.mem_of_getElem? (i := 2) rfl))
theorem inX4_begin_4 : ∀ w ∈ wsX40, w ∈ wsX4_begin := fun _ h => List.mem_cons_of_mem _ (List.mem_append_right _ (h))
set_option maxHeartbeats 4000000 in
set_option maxRecDepth 100000 in
theorem mX4_begin (l : Launch) (G : GT) (hG : GD G) (w : Nat) (sw : sh w = 4) (x1 : Int32) (x2 : Int32) (μ : Mem) (r : Unit) (μ' : Mem) (hf : fX4_begin w x1 x2 μ = some (r, μ')) : Ct l yX4_begin wsX4_begin rmX4_begin G [.ref (ga G w), .int x1, .int x2] μ none μ' := by
  refine Ct.of (cc := cX4_begin) (maxL := 3) (ret := none) (own := RX4) hG (by decide) rfl rfl (Nat.le_of_ble_eq_true rfl) ?_
  intro p e s m args below meth c ls H locs F hl hP hS
  have hl : lv_has ls 3 [(0, .ref (ga G w)), (1, .int x1), (2, .int x2)] := hl
  unfold fX4_begin at hf
  refine lv_aload_n F.1.1 F.1.2.1 dX4_begin_0 rfl (lv_at hl 0 rfl) ?_
  refine lv_iconst (v := (0 : Int32)) F.1.1 F.1.2.1 dX4_begin_1 (by decide) ?_
  refine pt_4_1 F hP hS w sw inX4_begin_4 kX4_begin_18 dX4_begin_2 hf (fun μ_1 H locs hP hS hf => ?_)
  refine lv_aload_n F.1.1 F.1.2.1 dX4_begin_5 rfl (lv_at hl 0 rfl) ?_
  refine lv_iload_n F.1.1 F.1.2.1 dX4_begin_6 rfl (lv_at hl 1 rfl) ?_
  refine pt_4_2 F hP hS w sw inX4_begin_4 kX4_begin_22 dX4_begin_7 hf (fun μ_2 H locs hP hS hf => ?_)
  refine lv_aload_n F.1.1 F.1.2.1 dX4_begin_10 rfl (lv_at hl 0 rfl) ?_
  refine lv_iload_n F.1.1 F.1.2.1 dX4_begin_11 rfl (lv_at hl 2 rfl) ?_
  refine pt_4_3 F hP hS w sw inX4_begin_4 kX4_begin_25 dX4_begin_12 hf (fun μ_3 H locs hP hS hf => ?_)
  exact retV F hP hS dX4_begin_15 hf
abbrev rmX0_become : Room := { frames := 0, cells := 0, slots := 0, locals := 0 }
theorem hdX0_become : yX0_become.cls = RX0 ∧ yX0_become.cls ≠ "java/lang/invoke/MethodHandle" ∧ yX0_become.cls ≠ "java/lang/invoke/VarHandle" ∧ (parseMethodDescriptor yX0_become.desc).map (fun d => d.parameters.length) = some 3 := by decide +kernel
theorem kX0_become_15 : Cond.fieldLink RX0 15 "PaperLayers$Layer" "hold" "I" ∈ wsX0_become := List.mem_cons_of_mem _ (List.mem_append_left _ (List.mem_of_getElem? (i := 1) rfl))
theorem kX0_become_18 : Cond.fieldLink RX0 18 "PaperLayers$Layer" "advice" "I" ∈ wsX0_become := List.mem_cons_of_mem _ (List.mem_append_left _ (List.mem_of_getElem? (i := 2) rfl))
theorem kX0_become_9 : Cond.fieldLink RX0 9 "PaperLayers$Layer" "kind" "I" ∈ wsX0_become := List.mem_cons_of_mem _ (List.mem_append_left _ (List.mem_of_getElem? (i := 0) rfl))
theorem inX0_become_0 : ∀ w ∈ wsX00, w ∈ wsX0_become := fun _ h => List.mem_cons_of_mem _ (List.mem_append_right _ (h))
set_option maxHeartbeats 4000000 in
set_option maxRecDepth 100000 in
theorem mX0_become (l : Launch) (G : GT) (hG : GD G) (i : Nat) (si : sh i = 0) (x1 : Int32) (x2 : Int32) (x3 : Int32) (μ : Mem) (r : Unit) (μ' : Mem) (hf : fX0_become i x1 x2 x3 μ = some (r, μ')) : Ct l yX0_become wsX0_become rmX0_become G [.ref (ga G i), .int x1, .int x2, .int x3] μ none μ' := by
  refine Ct.of (cc := cX0_become) (maxL := 4) (ret := none) (own := RX0) hG (by decide) rfl rfl (Nat.le_of_ble_eq_true rfl) ?_
  intro p e s m args below meth c ls H locs F hl hP hS
  have hl : lv_has ls 4 [(0, .ref (ga G i)), (1, .int x1), (2, .int x2), (3, .int x3)] := hl
  unfold fX0_become at hf
  refine lv_aload_n F.1.1 F.1.2.1 dX0_become_0 rfl (lv_at hl 0 rfl) ?_
  refine lv_iload_n F.1.1 F.1.2.1 dX0_become_1 rfl (lv_at hl 1 rfl) ?_
  refine pt_0_0 F hP hS i si inX0_become_0 kX0_become_9 dX0_become_2 hf (fun μ_1 H locs hP hS hf => ?_)
  refine lv_aload_n F.1.1 F.1.2.1 dX0_become_5 rfl (lv_at hl 0 rfl) ?_
  refine lv_iload_n F.1.1 F.1.2.1 dX0_become_6 rfl (lv_at hl 2 rfl) ?_
  refine pt_0_1 F hP hS i si inX0_become_0 kX0_become_15 dX0_become_7 hf (fun μ_2 H locs hP hS hf => ?_)
  refine lv_aload_n F.1.1 F.1.2.1 dX0_become_10 rfl (lv_at hl 0 rfl) ?_
  refine lv_iload_n F.1.1 F.1.2.1 dX0_become_11 rfl (lv_at hl 3 rfl) ?_
  refine pt_0_2 F hP hS i si inX0_become_0 kX0_become_18 dX0_become_12 hf (fun μ_3 H locs hP hS hf => ?_)
  exact retV F hP hS dX0_become_15 hf
abbrev rmX4_addBelow : Room := { frames := 1, cells := 0, slots := 0, locals := 23 }
theorem hdX4_addBelow : yX4_addBelow.cls = RX4 ∧ yX4_addBelow.cls ≠ "java/lang/invoke/MethodHandle" ∧ yX4_addBelow.cls ≠ "java/lang/invoke/VarHandle" ∧ (parseMethodDescriptor yX4_addBelow.desc).map (fun d => d.parameters.length) = some 3 := by decide +kernel
theorem kX4_addBelow_11 : Cond.fieldLink RX4 11 "PaperLayers$Wall" "layers" "[LPaperLayers$Layer;" ∈ wsX4_addBelow := List.mem_cons_of_mem _ (List.mem_append_left _ (List.mem_append_left _ (List.mem_of_getElem? (i := 1) rfl)))
theorem kX4_addBelow_18 : Cond.fieldLink RX4 18 "PaperLayers$Wall" "count" "I" ∈ wsX4_addBelow := List.mem_cons_of_mem _ (List.mem_append_left _ (List.mem_append_left _ (List.mem_of_getElem? (i := 0) rfl)))
theorem inX4_addBelow_4 : ∀ w ∈ wsX40, w ∈ wsX4_addBelow := fun _ h => List.mem_cons_of_mem _ (List.mem_append_left _ (List.mem_append_right _ (h)))
set_option maxHeartbeats 4000000 in
set_option maxRecDepth 100000 in
theorem mX4_addBelow (l : Launch) (G : GT) (hG : GD G) (w : Nat) (sw : sh w = 4) (x1 : Int32) (x2 : Int32) (x3 : Int32) (μ : Mem) (r : Unit) (μ' : Mem) (hf : fX4_addBelow w x1 x2 x3 μ = some (r, μ')) : Ct l yX4_addBelow wsX4_addBelow rmX4_addBelow G [.ref (ga G w), .int x1, .int x2, .int x3] μ none μ' := by
  refine Ct.of (cc := cX4_addBelow) (maxL := 4) (ret := none) (own := RX4) hG (by decide) rfl rfl (Nat.le_of_ble_eq_true rfl) ?_
  intro p e s m args below meth c ls H locs F hl hP hS
  have hl : lv_has ls 4 [(0, .ref (ga G w)), (1, .int x1), (2, .int x2), (3, .int x3)] := hl
  unfold fX4_addBelow at hf
  refine lv_aload_n F.1.1 F.1.2.1 dX4_addBelow_0 rfl (lv_at hl 0 rfl) ?_
  refine gt_4_1 F hP w sw inX4_addBelow_4 kX4_addBelow_18 dX4_addBelow_1 ?_
  refine lv_bipush (v := (6 : Int32)) F.1.1 F.1.2.1 dX4_addBelow_4 (by decide) ?_
  refine jc_ge (tgt := 34) F dX4_addBelow_6 (by decide) hf (fun hf => ?_) (fun hf => ?_)
  · exact retV F hP hS dX4_addBelow_34 hf
  · refine lv_aload_n F.1.1 F.1.2.1 dX4_addBelow_9 rfl (lv_at hl 0 rfl) ?_
    refine gt_4_0 F hP w sw inX4_addBelow_4 kX4_addBelow_11 dX4_addBelow_10 (fun s_1 => ?_)
    refine lv_aload_n F.1.1 F.1.2.1 dX4_addBelow_13 rfl (lv_at hl 0 rfl) ?_
    refine gt_4_1 F hP w sw inX4_addBelow_4 kX4_addBelow_18 dX4_addBelow_14 ?_
    refine r_aaL F hP (w + 1) s_1 dX4_addBelow_17 hf (fun s_2 hf => ?_)
    refine lv_iload_n F.1.1 F.1.2.1 dX4_addBelow_18 rfl (lv_at hl 1 rfl) ?_
    refine lv_iload_n F.1.1 F.1.2.1 dX4_addBelow_19 rfl (lv_at hl 2 rfl) ?_
    refine lv_iload_n F.1.1 F.1.2.1 dX4_addBelow_20 rfl (lv_at hl 3 rfl) ?_
    obtain ⟨u_5, μ_3, hc_4, hf⟩ := bnd_some hf
    refine rVv (R := rmX4_addBelow) (As := [.int x1, .int x2, .int x3]) (rest := []) F hP hS hl (mX0_become l G F.2.2.2.2 ((w + 1) + 1 + ((μ w 1)).toNatClampNeg) s_2 x1 x2 x3 _ _ _ hc_4) gX4_addBelow_X0_become s_2 hdX0_become rfl rfl rfl ⟨Nat.le_of_ble_eq_true rfl, Nat.le_of_ble_eq_true rfl⟩ (by decide) rfl rfl rfl (Nat.le_of_ble_eq_true rfl) ⟨Nat.le_of_ble_eq_true rfl, Nat.le_of_ble_eq_true rfl⟩ dX4_addBelow_21 (fun H locs hP hS => ?_)
    refine lv_aload_n F.1.1 F.1.2.1 dX4_addBelow_24 rfl (lv_at hl 0 rfl) ?_
    refine lv_dup F.1.1 F.1.2.1 dX4_addBelow_25 rfl ?_
    refine gt_4_1 F hP w sw inX4_addBelow_4 kX4_addBelow_18 dX4_addBelow_26 ?_
    refine lv_iconst (v := (1 : Int32)) F.1.1 F.1.2.1 dX4_addBelow_29 (by decide) ?_
    refine lv_iadd F.1.1 F.1.2.1 dX4_addBelow_30 ?_
    refine pt_4_1 F hP hS w sw inX4_addBelow_4 kX4_addBelow_18 dX4_addBelow_31 hf (fun μ_6 H locs hP hS hf => ?_)
    exact retV F hP hS dX4_addBelow_34 hf
abbrev rmX4_readText : Room := { frames := 2, cells := 0, slots := 0, locals := 46 }
theorem hdX4_readText : yX4_readText.cls = RX4 ∧ yX4_readText.cls ≠ "java/lang/invoke/MethodHandle" ∧ yX4_readText.cls ≠ "java/lang/invoke/VarHandle" ∧ (parseMethodDescriptor yX4_readText.desc).map (fun d => d.parameters.length) = some 3 := by decide +kernel
theorem kX4_readText_iniX5_kindOf : Cond.initialized RX5 ∈ wsX4_readText := List.mem_cons_of_mem _ (List.mem_append_left _ (List.mem_append_left _ (List.mem_append_left _ (List.mem_append_left _ (List.mem_of_getElem? (i := 19) rfl)))))
theorem kX4_readText_stX5_kindOf : Cond.static yX5_kindOf ∈ wsX4_readText := List.mem_cons_of_mem _ (List.mem_append_left _ (List.mem_append_left _ (List.mem_append_left _ (List.mem_append_left _ (List.mem_of_getElem? (i := 18) rfl)))))
set_option maxHeartbeats 4000000 in
set_option maxRecDepth 100000 in
theorem lX4_readText_L23 (l : Launch) (G : GT) {p : Program} {e : Env} {s : State} {m : MethodId} {args : Array Value} {below : List Frame} {meth : Method} {c : Code} (F : Fx p s m args meth c cX4_readText 5 wsX4_readText RX4 none G) (w : Nat) (sw : sh w = 4) (j1 : Nat) (sj1 : sh j1 = 3) (x2 : Int32) (x3 : Int32) (r : Unit) (μ' : Mem) : ∀ (fuel : Nat), ∀ (x4 : Int32) (μ : Mem) (H : Heap) (locs : List Loc) (ls : Array Slot), Hh G μ H → va_S (gA G) s.heap H locs → lv_has ls 5 [(0, .ref (ga G w)), (1, .ref (ga G j1)), (2, .int x2), (3, .int x3), (4, .int x4)] → fX4_readText_L23 w j1 x2 x3 fuel x4 μ = some (r, μ') → W p l e rmX4_readText s m args below meth c H locs 0 0 (MQ below (Qg G none μ') args s 0 0 (gA G)) (F0 m 23 ls []) := by
  intro fuel
  induction fuel with
  | zero =>
    intro x4 μ H locs ls hP hS hl hf
    exact absurd hf (by intro h; cases h)
  | succ fuel ih23 =>
    intro x4 μ H locs ls hP hS hl hf
    have hf : sX4_readText_L23 (fX4_readText_L23 w j1 x2 x3 fuel) w j1 x2 x3 x4 μ = some (r, μ') := hf
    unfold sX4_readText_L23 at hf
    refine lv_iload F.1.1 F.1.2.1 dX4_readText_23 (lv_at hl 4 rfl) ?_
    refine lv_iload_n F.1.1 F.1.2.1 dX4_readText_25 rfl (lv_at hl 2 rfl) ?_
    refine lv_iload_n F.1.1 F.1.2.1 dX4_readText_26 rfl (lv_at hl 3 rfl) ?_
    refine lv_iadd F.1.1 F.1.2.1 dX4_readText_27 ?_
    refine lv_iconst (v := (4 : Int32)) F.1.1 F.1.2.1 dX4_readText_28 (by decide) ?_
    refine lv_isub F.1.1 F.1.2.1 dX4_readText_29 ?_
    refine jc_gt (tgt := 70) F dX4_readText_30 (by decide) hf (fun hf => ?_) (fun hf => ?_)
    · exact retV F hP hS dX4_readText_70 hf
    · refine lv_aload_n F.1.1 F.1.2.1 dX4_readText_33 rfl (lv_at hl 0 rfl) ?_
      refine lv_aload_n F.1.1 F.1.2.1 dX4_readText_34 rfl (lv_at hl 1 rfl) ?_
      refine lv_iload F.1.1 F.1.2.1 dX4_readText_35 (lv_at hl 4 rfl) ?_
      refine lv_iconst (v := (1 : Int32)) F.1.1 F.1.2.1 dX4_readText_37 (by decide) ?_
      refine lv_iadd F.1.1 F.1.2.1 dX4_readText_38 ?_
      obtain ⟨r_13, μ_11, hc_12, hf⟩ := bnd_some hf
      refine rV1 (R := rmX4_readText) (As := [.int (x4 + (1 : Int32))]) (rest := [.ref (ga G w)]) F hP hS hl (mX3_getCell l G F.2.2.2.2 j1 sj1 (x4 + (1 : Int32)) _ _ _ hc_12) gX4_readText_X3_getCell sj1 hdX3_getCell rfl rfl rfl ⟨Nat.le_of_ble_eq_true rfl, Nat.le_of_ble_eq_true rfl⟩ (by decide) rfl rfl rfl (Nat.le_of_ble_eq_true rfl) ⟨Nat.le_of_ble_eq_true rfl, Nat.le_of_ble_eq_true rfl⟩ dX4_readText_39 (fun H locs hP hS => ?_)
      obtain ⟨r_16, μ_14, hc_15, hf⟩ := bnd_some hf
      refine rSN1 (R := rmX4_readText) (As := [.int r_13]) (rest := [.ref (ga G w)]) F hP hS hl (mX5_kindOf l G F.2.2.2.2 r_13 _ _ _ hc_15) gX4_readText_X5_kindOf_n98 hdX5_kindOf F.2.2.2.1.2 kX4_readText_iniX5_kindOf kX4_readText_stX5_kindOf rfl rfl rfl ⟨Nat.le_of_ble_eq_true rfl, Nat.le_of_ble_eq_true rfl⟩ rfl rfl (Nat.le_of_ble_eq_true rfl) ⟨Nat.le_of_ble_eq_true rfl, Nat.le_of_ble_eq_true rfl⟩ dX4_readText_42 (fun H locs hP hS => ?_)
      refine lv_aload_n F.1.1 F.1.2.1 dX4_readText_45 rfl (lv_at hl 1 rfl) ?_
      refine lv_iload F.1.1 F.1.2.1 dX4_readText_46 (lv_at hl 4 rfl) ?_
      refine lv_iconst (v := (2 : Int32)) F.1.1 F.1.2.1 dX4_readText_48 (by decide) ?_
      refine lv_iadd F.1.1 F.1.2.1 dX4_readText_49 ?_
      obtain ⟨r_19, μ_17, hc_18, hf⟩ := bnd_some hf
      refine rS1 (R := rmX4_readText) (As := [.ref (ga G j1), .int (x4 + (2 : Int32))]) (rest := [.int r_16, .ref (ga G w)]) F hP hS hl (mX4_digitAt l G F.2.2.2.2 j1 sj1 (x4 + (2 : Int32)) _ _ _ hc_18) gX4_readText_X4_digitAt hdX4_digitAt rfl rfl rfl ⟨Nat.le_of_ble_eq_true rfl, Nat.le_of_ble_eq_true rfl⟩ rfl rfl (Nat.le_of_ble_eq_true rfl) ⟨Nat.le_of_ble_eq_true rfl, Nat.le_of_ble_eq_true rfl⟩ dX4_readText_50 (fun H locs hP hS => ?_)
      refine lv_aload_n F.1.1 F.1.2.1 dX4_readText_53 rfl (lv_at hl 1 rfl) ?_
      refine lv_iload F.1.1 F.1.2.1 dX4_readText_54 (lv_at hl 4 rfl) ?_
      refine lv_iconst (v := (3 : Int32)) F.1.1 F.1.2.1 dX4_readText_56 (by decide) ?_
      refine lv_iadd F.1.1 F.1.2.1 dX4_readText_57 ?_
      obtain ⟨r_22, μ_20, hc_21, hf⟩ := bnd_some hf
      refine rS1 (R := rmX4_readText) (As := [.ref (ga G j1), .int (x4 + (3 : Int32))]) (rest := [.int r_19, .int r_16, .ref (ga G w)]) F hP hS hl (mX4_digitAt l G F.2.2.2.2 j1 sj1 (x4 + (3 : Int32)) _ _ _ hc_21) gX4_readText_X4_digitAt hdX4_digitAt rfl rfl rfl ⟨Nat.le_of_ble_eq_true rfl, Nat.le_of_ble_eq_true rfl⟩ rfl rfl (Nat.le_of_ble_eq_true rfl) ⟨Nat.le_of_ble_eq_true rfl, Nat.le_of_ble_eq_true rfl⟩ dX4_readText_58 (fun H locs hP hS => ?_)
      obtain ⟨u_25, μ_23, hc_24, hf⟩ := bnd_some hf
      refine rVv (R := rmX4_readText) (As := [.int r_16, .int r_19, .int r_22]) (rest := []) F hP hS hl (mX4_addBelow l G F.2.2.2.2 w sw r_16 r_19 r_22 _ _ _ hc_24) gX4_readText_X4_addBelow sw hdX4_addBelow rfl rfl rfl ⟨Nat.le_of_ble_eq_true rfl, Nat.le_of_ble_eq_true rfl⟩ (by decide) rfl rfl rfl (Nat.le_of_ble_eq_true rfl) ⟨Nat.le_of_ble_eq_true rfl, Nat.le_of_ble_eq_true rfl⟩ dX4_readText_61 (fun H locs hP hS => ?_)
      refine top_n hf (fun y_26 ey_26 hf => ?_)
      refine lv_iinc (v := y_26) (lv' := [(4, .int y_26), (0, .ref (ga G w)), (1, .ref (ga G j1)), (2, .int x2), (3, .int x3)]) F.1.1 F.1.2.1 dX4_readText_64 hl (k := 4) rfl ey_26 (by decide) rfl (fun ls hl => ?_)
      refine lv_goto (tgt := 23) F.1.1 F.1.2.1 dX4_readText_67 (by decide) ?_
      exact ih23 y_26 μ_23 H locs ls hP hS (lv_sub hl [1, 2, 3, 4, 0] rfl) hf
set_option maxHeartbeats 4000000 in
set_option maxRecDepth 100000 in
theorem mX4_readText (l : Launch) (G : GT) (hG : GD G) (w : Nat) (sw : sh w = 4) (j1 : Nat) (sj1 : sh j1 = 3) (x2 : Int32) (x3 : Int32) (μ : Mem) (r : Unit) (μ' : Mem) (hf : fX4_readText w j1 x2 x3 μ = some (r, μ')) : Ct l yX4_readText wsX4_readText rmX4_readText G [.ref (ga G w), .ref (ga G j1), .int x2, .int x3] μ none μ' := by
  refine Ct.of (cc := cX4_readText) (maxL := 5) (ret := none) (own := RX4) hG (by decide) rfl rfl (Nat.le_of_ble_eq_true rfl) ?_
  intro p e s m args below meth c ls H locs F hl hP hS
  have hl : lv_has ls 5 [(0, .ref (ga G w)), (1, .ref (ga G j1)), (2, .int x2), (3, .int x3)] := hl
  unfold fX4_readText at hf
  refine lv_aload_n F.1.1 F.1.2.1 dX4_readText_0 rfl (lv_at hl 0 rfl) ?_
  refine lv_aload_n F.1.1 F.1.2.1 dX4_readText_1 rfl (lv_at hl 1 rfl) ?_
  refine lv_iload_n F.1.1 F.1.2.1 dX4_readText_2 rfl (lv_at hl 2 rfl) ?_
  refine lv_iconst (v := (1 : Int32)) F.1.1 F.1.2.1 dX4_readText_3 (by decide) ?_
  refine lv_iadd F.1.1 F.1.2.1 dX4_readText_4 ?_
  obtain ⟨r_3, μ_1, hc_2, hf⟩ := bnd_some hf
  refine rS1 (R := rmX4_readText) (As := [.ref (ga G j1), .int (x2 + (1 : Int32))]) (rest := [.ref (ga G w)]) F hP hS hl (mX4_digitAt l G F.2.2.2.2 j1 sj1 (x2 + (1 : Int32)) _ _ _ hc_2) gX4_readText_X4_digitAt hdX4_digitAt rfl rfl rfl ⟨Nat.le_of_ble_eq_true rfl, Nat.le_of_ble_eq_true rfl⟩ rfl rfl (Nat.le_of_ble_eq_true rfl) ⟨Nat.le_of_ble_eq_true rfl, Nat.le_of_ble_eq_true rfl⟩ dX4_readText_5 (fun H locs hP hS => ?_)
  refine lv_aload_n F.1.1 F.1.2.1 dX4_readText_8 rfl (lv_at hl 1 rfl) ?_
  refine lv_iload_n F.1.1 F.1.2.1 dX4_readText_9 rfl (lv_at hl 2 rfl) ?_
  refine lv_iconst (v := (2 : Int32)) F.1.1 F.1.2.1 dX4_readText_10 (by decide) ?_
  refine lv_iadd F.1.1 F.1.2.1 dX4_readText_11 ?_
  obtain ⟨r_6, μ_4, hc_5, hf⟩ := bnd_some hf
  refine rS1 (R := rmX4_readText) (As := [.ref (ga G j1), .int (x2 + (2 : Int32))]) (rest := [.int r_3, .ref (ga G w)]) F hP hS hl (mX4_digitAt l G F.2.2.2.2 j1 sj1 (x2 + (2 : Int32)) _ _ _ hc_5) gX4_readText_X4_digitAt hdX4_digitAt rfl rfl rfl ⟨Nat.le_of_ble_eq_true rfl, Nat.le_of_ble_eq_true rfl⟩ rfl rfl (Nat.le_of_ble_eq_true rfl) ⟨Nat.le_of_ble_eq_true rfl, Nat.le_of_ble_eq_true rfl⟩ dX4_readText_12 (fun H locs hP hS => ?_)
  obtain ⟨u_9, μ_7, hc_8, hf⟩ := bnd_some hf
  refine rVv (R := rmX4_readText) (As := [.int r_3, .int r_6]) (rest := []) F hP hS hl (mX4_begin l G F.2.2.2.2 w sw r_3 r_6 _ _ _ hc_8) gX4_readText_X4_begin sw hdX4_begin rfl rfl rfl ⟨Nat.le_of_ble_eq_true rfl, Nat.le_of_ble_eq_true rfl⟩ (by decide) rfl rfl rfl (Nat.le_of_ble_eq_true rfl) ⟨Nat.le_of_ble_eq_true rfl, Nat.le_of_ble_eq_true rfl⟩ dX4_readText_15 (fun H locs hP hS => ?_)
  refine lv_iload_n F.1.1 F.1.2.1 dX4_readText_18 rfl (lv_at hl 2 rfl) ?_
  refine lv_iconst (v := (3 : Int32)) F.1.1 F.1.2.1 dX4_readText_19 (by decide) ?_
  refine lv_iadd F.1.1 F.1.2.1 dX4_readText_20 ?_
  refine top_i hf (fun y_10 hf => ?_)
  refine lv_istore (lv' := [(4, .int y_10), (0, .ref (ga G w)), (1, .ref (ga G j1)), (2, .int x2), (3, .int x3)]) F.1.1 F.1.2.1 dX4_readText_21 hl (by decide) rfl (fun ls hl => ?_)
  exact lX4_readText_L23 l G F w sw j1 sj1 x2 x3 _ _ FU y_10 μ_7 H locs ls hP hS (lv_sub hl [1, 2, 3, 4, 0] rfl) hf
abbrev rmX5_wall : Room := { frames := 3, cells := 0, slots := 0, locals := 70 }
theorem hdX5_wall : yX5_wall.cls = RX5 ∧ yX5_wall.cls ≠ "java/lang/invoke/MethodHandle" ∧ yX5_wall.cls ≠ "java/lang/invoke/VarHandle" ∧ (parseMethodDescriptor yX5_wall.desc).map (fun d => d.parameters.length) = some 4 := by decide +kernel
theorem kX5_wall_12 : Cond.fieldLink RX5 12 "PaperLayers" "now" "LPaperLayers$Wall;" ∈ wsX5_wall := List.mem_cons_of_mem _ (List.mem_append_left _ (List.mem_append_left _ (List.mem_append_left _ (List.mem_append_left _ (List.mem_append_left _ (List.mem_append_left _ (List.mem_of_getElem? (i := 1) rfl)))))))
theorem kX5_wall_24 : Cond.fieldLink RX5 24 "PaperLayers" "readings" "LPaperLayers$Readings;" ∈ wsX5_wall := List.mem_cons_of_mem _ (List.mem_append_left _ (List.mem_append_left _ (List.mem_append_left _ (List.mem_append_left _ (List.mem_append_left _ (List.mem_append_left _ (List.mem_of_getElem? (i := 2) rfl)))))))
theorem kX5_wall_42 : Cond.fieldLink RX5 42 "PaperLayers" "latestFault" "I" ∈ wsX5_wall := List.mem_cons_of_mem _ (List.mem_append_left _ (List.mem_append_left _ (List.mem_append_left _ (List.mem_append_left _ (List.mem_append_left _ (List.mem_append_left _ (List.mem_of_getElem? (i := 0) rfl)))))))
theorem kX5_wall_73 : Cond.fieldLink RX5 73 "PaperLayers$Readings" "count" "I" ∈ wsX5_wall := List.mem_cons_of_mem _ (List.mem_append_left _ (List.mem_append_left _ (List.mem_append_left _ (List.mem_append_left _ (List.mem_append_left _ (List.mem_append_left _ (List.mem_of_getElem? (i := 3) rfl)))))))
theorem kX5_wall_76 : Cond.fieldLink RX5 76 "PaperLayers$Wall" "count" "I" ∈ wsX5_wall := List.mem_cons_of_mem _ (List.mem_append_left _ (List.mem_append_left _ (List.mem_append_left _ (List.mem_append_left _ (List.mem_append_left _ (List.mem_append_left _ (List.mem_of_getElem? (i := 4) rfl)))))))
theorem inX5_wall_2 : ∀ w ∈ wsX20, w ∈ wsX5_wall := fun _ h => List.mem_cons_of_mem _ (List.mem_append_left _ (List.mem_append_left _ (List.mem_append_left _ (List.mem_append_right _ (h)))))
theorem inX5_wall_4 : ∀ w ∈ wsX40, w ∈ wsX5_wall := fun _ h => List.mem_cons_of_mem _ (List.mem_append_left _ (List.mem_append_left _ (List.mem_append_right _ (h))))
theorem inX5_wall_5 : ∀ w ∈ wsX50, w ∈ wsX5_wall := fun _ h => List.mem_cons_of_mem _ (List.mem_append_left _ (List.mem_append_left _ (List.mem_append_left _ (List.mem_append_left _ (List.mem_append_right _ (h))))))
set_option maxHeartbeats 4000000 in
set_option maxRecDepth 100000 in
theorem mX5_wall (l : Launch) (G : GT) (hG : GD G) (x1 : Int32) (x2 : Int32) (x3 : Int32) (x4 : Int32) (μ : Mem) (r : Int32) (μ' : Mem) (hf : fX5_wall x1 x2 x3 x4 μ = some (r, μ')) : Ct l yX5_wall wsX5_wall rmX5_wall G [.ref (ga G 0), .int x1, .int x2, .int x3, .int x4] μ (some (.int r)) μ' := by
  refine Ct.of (cc := cX5_wall) (maxL := 8) (ret := (some .int)) (own := RX5) hG (by decide) rfl rfl (Nat.le_of_ble_eq_true rfl) ?_
  intro p e s m args below meth c ls H locs F hl hP hS
  have hl : lv_has ls 8 [(0, .ref (ga G 0)), (1, .int x1), (2, .int x2), (3, .int x3), (4, .int x4)] := hl
  unfold fX5_wall at hf
  refine lv_aload_n F.1.1 F.1.2.1 dX5_wall_0 rfl (lv_at hl 0 rfl) ?_
  refine lv_iconst (v := (0 : Int32)) F.1.1 F.1.2.1 dX5_wall_1 (by decide) ?_
  refine pt_5_6 F hP hS 0 rfl inX5_wall_5 kX5_wall_42 dX5_wall_2 hf (fun μ_1 H locs hP hS hf => ?_)
  refine lv_aload_n F.1.1 F.1.2.1 dX5_wall_5 rfl (lv_at hl 0 rfl) ?_
  refine lv_iload_n F.1.1 F.1.2.1 dX5_wall_6 rfl (lv_at hl 1 rfl) ?_
  obtain ⟨r_4, μ_2, hc_3, hf⟩ := bnd_some hf
  refine rV1 (R := rmX5_wall) (As := [.int x1]) (rest := []) F hP hS hl (mX5_sheetAt l G F.2.2.2.2 x1 _ _ _ hc_3) gX5_wall_X5_sheetAt rfl hdX5_sheetAt rfl rfl rfl ⟨Nat.le_of_ble_eq_true rfl, Nat.le_of_ble_eq_true rfl⟩ (by decide) rfl rfl rfl (Nat.le_of_ble_eq_true rfl) ⟨Nat.le_of_ble_eq_true rfl, Nat.le_of_ble_eq_true rfl⟩ dX5_wall_7 (fun H locs hP hS => ?_)
  refine top_o hf (fun hf => ?_) (fun i_5 ho_6 hf => ?_)
  · refine lv_astoreN (lv' := [(5, .null), (0, .ref (ga G 0)), (1, .int x1), (2, .int x2), (3, .int x3), (4, .int x4)]) F.1.1 F.1.2.1 dX5_wall_10 hl (by decide) rfl (fun ls hl => ?_)
    refine lv_aloadN F.1.1 F.1.2.1 dX5_wall_12 (lv_at hl 0 rfl) ?_
    refine lv_ifnonnullN F.1.1 F.1.2.1 dX5_wall_14 ?_
    refine lv_iconst (v := (-1 : Int32)) F.1.1 F.1.2.1 dX5_wall_17 (by decide) ?_
    exact retI F hP hS dX5_wall_18 hf
  · have s_7 := shX5_sheetAt_r (ho_6 ▸ hc_3)
    refine lv_astore (lv' := [(5, .ref (ga G i_5)), (0, .ref (ga G 0)), (1, .int x1), (2, .int x2), (3, .int x3), (4, .int x4)]) F.1.1 F.1.2.1 dX5_wall_10 hl (by decide) rfl (fun ls hl => ?_)
    refine lv_aload F.1.1 F.1.2.1 dX5_wall_12 (lv_at hl 0 rfl) ?_
    refine lv_ifnonnull (tgt := 19) F.1.1 F.1.2.1 dX5_wall_14 (by decide) ?_
    refine lv_iload_n F.1.1 F.1.2.1 dX5_wall_19 rfl (lv_at hl 3 rfl) ?_
    refine lv_iconst (v := (2 : Int32)) F.1.1 F.1.2.1 dX5_wall_20 (by decide) ?_
    obtain ⟨r_10, μ_8, hc_9, hf⟩ := bnd_some hf
    refine rS1 (R := rmX5_wall) (As := [.int x2, .int (2 : Int32)]) (rest := []) F hP hS hl (mX5_isUpTo l G F.2.2.2.2 x2 (2 : Int32) _ _ _ hc_9) gX5_wall_X5_isUpTo hdX5_isUpTo rfl rfl rfl ⟨Nat.le_of_ble_eq_true rfl, Nat.le_of_ble_eq_true rfl⟩ rfl rfl (Nat.le_of_ble_eq_true rfl) ⟨Nat.le_of_ble_eq_true rfl, Nat.le_of_ble_eq_true rfl⟩ dX5_wall_21 (fun H locs hP hS => ?_)
    refine jz_ne (tgt := 30) F dX5_wall_24 (by decide) hf (fun hf => ?_) (fun hf => ?_)
    · refine lv_aload F.1.1 F.1.2.1 dX5_wall_30 (lv_at hl 0 rfl) ?_
      refine lv_iload_n F.1.1 F.1.2.1 dX5_wall_32 rfl (lv_at hl 3 rfl) ?_
      obtain ⟨r_13, μ_11, hc_12, hf⟩ := bnd_some hf
      refine rV1 (R := rmX5_wall) (As := [.int x2]) (rest := []) F hP hS hl (mX3_faultAsLane l G F.2.2.2.2 i_5 s_7 x2 _ _ _ hc_12) gX5_wall_X3_faultAsLane s_7 hdX3_faultAsLane rfl rfl rfl ⟨Nat.le_of_ble_eq_true rfl, Nat.le_of_ble_eq_true rfl⟩ (by decide) rfl rfl rfl (Nat.le_of_ble_eq_true rfl) ⟨Nat.le_of_ble_eq_true rfl, Nat.le_of_ble_eq_true rfl⟩ dX5_wall_33 (fun H locs hP hS => ?_)
      refine lv_istore (lv' := [(6, .int r_13), (5, .ref (ga G i_5)), (0, .ref (ga G 0)), (1, .int x1), (2, .int x2), (3, .int x3), (4, .int x4)]) F.1.1 F.1.2.1 dX5_wall_36 hl (by decide) rfl (fun ls hl => ?_)
      refine lv_iload F.1.1 F.1.2.1 dX5_wall_38 (lv_at hl 0 rfl) ?_
      refine jz_ne (tgt := 62) F dX5_wall_40 (by decide) hf (fun hf => ?_) (fun hf => ?_)
      · refine lv_iload F.1.1 F.1.2.1 dX5_wall_62 (lv_at hl 0 rfl) ?_
        refine jz_eq (tgt := 74) F dX5_wall_64 (by decide) hf (fun hf => ?_) (fun hf => ?_)
        · refine lv_aload F.1.1 F.1.2.1 dX5_wall_74 (lv_at hl 1 rfl) ?_
          refine lv_iload_n F.1.1 F.1.2.1 dX5_wall_76 rfl (lv_at hl 5 rfl) ?_
          refine lv_iload F.1.1 F.1.2.1 dX5_wall_77 (lv_at hl 6 rfl) ?_
          obtain ⟨r_16, μ_14, hc_15, hf⟩ := bnd_some hf
          refine rS1 (R := rmX5_wall) (As := [.ref (ga G i_5), .int x3, .int x4]) (rest := []) F hP hS hl (mX5_firstFault l G F.2.2.2.2 i_5 s_7 x3 x4 _ _ _ hc_15) gX5_wall_X5_firstFault hdX5_firstFault rfl rfl rfl ⟨Nat.le_of_ble_eq_true rfl, Nat.le_of_ble_eq_true rfl⟩ rfl rfl (Nat.le_of_ble_eq_true rfl) ⟨Nat.le_of_ble_eq_true rfl, Nat.le_of_ble_eq_true rfl⟩ dX5_wall_79 (fun H locs hP hS => ?_)
          refine lv_istore (lv' := [(7, .int r_16), (6, .int r_13), (5, .ref (ga G i_5)), (0, .ref (ga G 0)), (1, .int x1), (2, .int x2), (3, .int x3), (4, .int x4)]) F.1.1 F.1.2.1 dX5_wall_82 hl (by decide) rfl (fun ls hl => ?_)
          refine lv_iload F.1.1 F.1.2.1 dX5_wall_84 (lv_at hl 0 rfl) ?_
          refine jz_lt (tgt := 95) F dX5_wall_86 (by decide) hf (fun hf => ?_) (fun hf => ?_)
          · refine lv_aload_n F.1.1 F.1.2.1 dX5_wall_95 rfl (lv_at hl 3 rfl) ?_
            refine gt_5_0 F hP 0 rfl inX5_wall_5 kX5_wall_12 dX5_wall_96 ?_
            refine lv_aload F.1.1 F.1.2.1 dX5_wall_99 (lv_at hl 2 rfl) ?_
            refine lv_iload_n F.1.1 F.1.2.1 dX5_wall_101 rfl (lv_at hl 6 rfl) ?_
            refine lv_iload F.1.1 F.1.2.1 dX5_wall_102 (lv_at hl 7 rfl) ?_
            obtain ⟨u_19, μ_17, hc_18, hf⟩ := bnd_some hf
            refine rVv (R := rmX5_wall) (As := [.ref (ga G i_5), .int x3, .int x4]) (rest := []) F hP hS hl (mX4_readText l G F.2.2.2.2 1 rfl i_5 s_7 x3 x4 _ _ _ hc_18) gX5_wall_X4_readText rfl hdX4_readText rfl rfl rfl ⟨Nat.le_of_ble_eq_true rfl, Nat.le_of_ble_eq_true rfl⟩ (by decide) rfl rfl rfl (Nat.le_of_ble_eq_true rfl) ⟨Nat.le_of_ble_eq_true rfl, Nat.le_of_ble_eq_true rfl⟩ dX5_wall_104 (fun H locs hP hS => ?_)
            refine lv_aload_n F.1.1 F.1.2.1 dX5_wall_107 rfl (lv_at hl 3 rfl) ?_
            refine gt_5_2 F hP 0 rfl inX5_wall_5 kX5_wall_24 dX5_wall_108 ?_
            refine lv_iconst (v := (0 : Int32)) F.1.1 F.1.2.1 dX5_wall_111 (by decide) ?_
            refine pt_2_2 F hP hS 17 rfl inX5_wall_2 kX5_wall_73 dX5_wall_112 hf (fun μ_20 H locs hP hS hf => ?_)
            refine lv_aload_n F.1.1 F.1.2.1 dX5_wall_115 rfl (lv_at hl 3 rfl) ?_
            refine gt_5_0 F hP 0 rfl inX5_wall_5 kX5_wall_12 dX5_wall_116 ?_
            refine gt_4_1 F hP 1 rfl inX5_wall_4 kX5_wall_76 dX5_wall_119 ?_
            exact retI F hP hS dX5_wall_122 hf
          · refine lv_bipush (v := (-100 : Int32)) F.1.1 F.1.2.1 dX5_wall_89 (by decide) ?_
            refine lv_iload F.1.1 F.1.2.1 dX5_wall_91 (lv_at hl 0 rfl) ?_
            refine lv_isub F.1.1 F.1.2.1 dX5_wall_93 ?_
            exact retI F hP hS dX5_wall_94 hf
        · refine lv_aload_n F.1.1 F.1.2.1 dX5_wall_67 rfl (lv_at hl 2 rfl) ?_
          refine lv_iload F.1.1 F.1.2.1 dX5_wall_68 (lv_at hl 0 rfl) ?_
          obtain ⟨r_23, μ_21, hc_22, hf⟩ := bnd_some hf
          refine rV1 (R := rmX5_wall) (As := [.int r_13]) (rest := []) F hP hS hl (mX5_failed l G F.2.2.2.2 r_13 _ _ _ hc_22) gX5_wall_X5_failed rfl hdX5_failed rfl rfl rfl ⟨Nat.le_of_ble_eq_true rfl, Nat.le_of_ble_eq_true rfl⟩ (by decide) rfl rfl rfl (Nat.le_of_ble_eq_true rfl) ⟨Nat.le_of_ble_eq_true rfl, Nat.le_of_ble_eq_true rfl⟩ dX5_wall_70 (fun H locs hP hS => ?_)
          exact retI F hP hS dX5_wall_73 hf
      · refine lv_iload F.1.1 F.1.2.1 dX5_wall_43 (lv_at hl 6 rfl) ?_
        refine jz_ge (tgt := 52) F dX5_wall_45 (by decide) hf (fun hf => ?_) (fun hf => ?_)
        · refine lv_aload F.1.1 F.1.2.1 dX5_wall_52 (lv_at hl 1 rfl) ?_
          refine lv_iload_n F.1.1 F.1.2.1 dX5_wall_54 rfl (lv_at hl 5 rfl) ?_
          refine lv_iload F.1.1 F.1.2.1 dX5_wall_55 (lv_at hl 6 rfl) ?_
          obtain ⟨r_26, μ_24, hc_25, hf⟩ := bnd_some hf
          refine rV1 (R := rmX5_wall) (As := [.int x3, .int x4]) (rest := []) F hP hS hl (mX3_faultOfCells l G F.2.2.2.2 i_5 s_7 x3 x4 _ _ _ hc_25) gX5_wall_X3_faultOfCells s_7 hdX3_faultOfCells rfl rfl rfl ⟨Nat.le_of_ble_eq_true rfl, Nat.le_of_ble_eq_true rfl⟩ (by decide) rfl rfl rfl (Nat.le_of_ble_eq_true rfl) ⟨Nat.le_of_ble_eq_true rfl, Nat.le_of_ble_eq_true rfl⟩ dX5_wall_57 (fun H locs hP hS => ?_)
          refine lv_istore (lv' := [(6, .int r_26), (5, .ref (ga G i_5)), (0, .ref (ga G 0)), (1, .int x1), (2, .int x2), (3, .int x3), (4, .int x4)]) F.1.1 F.1.2.1 dX5_wall_60 hl (by decide) rfl (fun ls hl => ?_)
          refine lv_iload F.1.1 F.1.2.1 dX5_wall_62 (lv_at hl 0 rfl) ?_
          refine jz_eq (tgt := 74) F dX5_wall_64 (by decide) hf (fun hf => ?_) (fun hf => ?_)
          · refine lv_aload F.1.1 F.1.2.1 dX5_wall_74 (lv_at hl 1 rfl) ?_
            refine lv_iload_n F.1.1 F.1.2.1 dX5_wall_76 rfl (lv_at hl 5 rfl) ?_
            refine lv_iload F.1.1 F.1.2.1 dX5_wall_77 (lv_at hl 6 rfl) ?_
            obtain ⟨r_29, μ_27, hc_28, hf⟩ := bnd_some hf
            refine rS1 (R := rmX5_wall) (As := [.ref (ga G i_5), .int x3, .int x4]) (rest := []) F hP hS hl (mX5_firstFault l G F.2.2.2.2 i_5 s_7 x3 x4 _ _ _ hc_28) gX5_wall_X5_firstFault hdX5_firstFault rfl rfl rfl ⟨Nat.le_of_ble_eq_true rfl, Nat.le_of_ble_eq_true rfl⟩ rfl rfl (Nat.le_of_ble_eq_true rfl) ⟨Nat.le_of_ble_eq_true rfl, Nat.le_of_ble_eq_true rfl⟩ dX5_wall_79 (fun H locs hP hS => ?_)
            refine lv_istore (lv' := [(7, .int r_29), (6, .int r_26), (5, .ref (ga G i_5)), (0, .ref (ga G 0)), (1, .int x1), (2, .int x2), (3, .int x3), (4, .int x4)]) F.1.1 F.1.2.1 dX5_wall_82 hl (by decide) rfl (fun ls hl => ?_)
            refine lv_iload F.1.1 F.1.2.1 dX5_wall_84 (lv_at hl 0 rfl) ?_
            refine jz_lt (tgt := 95) F dX5_wall_86 (by decide) hf (fun hf => ?_) (fun hf => ?_)
            · refine lv_aload_n F.1.1 F.1.2.1 dX5_wall_95 rfl (lv_at hl 3 rfl) ?_
              refine gt_5_0 F hP 0 rfl inX5_wall_5 kX5_wall_12 dX5_wall_96 ?_
              refine lv_aload F.1.1 F.1.2.1 dX5_wall_99 (lv_at hl 2 rfl) ?_
              refine lv_iload_n F.1.1 F.1.2.1 dX5_wall_101 rfl (lv_at hl 6 rfl) ?_
              refine lv_iload F.1.1 F.1.2.1 dX5_wall_102 (lv_at hl 7 rfl) ?_
              obtain ⟨u_32, μ_30, hc_31, hf⟩ := bnd_some hf
              refine rVv (R := rmX5_wall) (As := [.ref (ga G i_5), .int x3, .int x4]) (rest := []) F hP hS hl (mX4_readText l G F.2.2.2.2 1 rfl i_5 s_7 x3 x4 _ _ _ hc_31) gX5_wall_X4_readText rfl hdX4_readText rfl rfl rfl ⟨Nat.le_of_ble_eq_true rfl, Nat.le_of_ble_eq_true rfl⟩ (by decide) rfl rfl rfl (Nat.le_of_ble_eq_true rfl) ⟨Nat.le_of_ble_eq_true rfl, Nat.le_of_ble_eq_true rfl⟩ dX5_wall_104 (fun H locs hP hS => ?_)
              refine lv_aload_n F.1.1 F.1.2.1 dX5_wall_107 rfl (lv_at hl 3 rfl) ?_
              refine gt_5_2 F hP 0 rfl inX5_wall_5 kX5_wall_24 dX5_wall_108 ?_
              refine lv_iconst (v := (0 : Int32)) F.1.1 F.1.2.1 dX5_wall_111 (by decide) ?_
              refine pt_2_2 F hP hS 17 rfl inX5_wall_2 kX5_wall_73 dX5_wall_112 hf (fun μ_33 H locs hP hS hf => ?_)
              refine lv_aload_n F.1.1 F.1.2.1 dX5_wall_115 rfl (lv_at hl 3 rfl) ?_
              refine gt_5_0 F hP 0 rfl inX5_wall_5 kX5_wall_12 dX5_wall_116 ?_
              refine gt_4_1 F hP 1 rfl inX5_wall_4 kX5_wall_76 dX5_wall_119 ?_
              exact retI F hP hS dX5_wall_122 hf
            · refine lv_bipush (v := (-100 : Int32)) F.1.1 F.1.2.1 dX5_wall_89 (by decide) ?_
              refine lv_iload F.1.1 F.1.2.1 dX5_wall_91 (lv_at hl 0 rfl) ?_
              refine lv_isub F.1.1 F.1.2.1 dX5_wall_93 ?_
              exact retI F hP hS dX5_wall_94 hf
          · refine lv_aload_n F.1.1 F.1.2.1 dX5_wall_67 rfl (lv_at hl 2 rfl) ?_
            refine lv_iload F.1.1 F.1.2.1 dX5_wall_68 (lv_at hl 0 rfl) ?_
            obtain ⟨r_36, μ_34, hc_35, hf⟩ := bnd_some hf
            refine rV1 (R := rmX5_wall) (As := [.int r_26]) (rest := []) F hP hS hl (mX5_failed l G F.2.2.2.2 r_26 _ _ _ hc_35) gX5_wall_X5_failed rfl hdX5_failed rfl rfl rfl ⟨Nat.le_of_ble_eq_true rfl, Nat.le_of_ble_eq_true rfl⟩ (by decide) rfl rfl rfl (Nat.le_of_ble_eq_true rfl) ⟨Nat.le_of_ble_eq_true rfl, Nat.le_of_ble_eq_true rfl⟩ dX5_wall_70 (fun H locs hP hS => ?_)
            exact retI F hP hS dX5_wall_73 hf
        · refine lv_iconst (v := (4 : Int32)) F.1.1 F.1.2.1 dX5_wall_48 (by decide) ?_
          refine lv_goto (tgt := 60) F.1.1 F.1.2.1 dX5_wall_49 (by decide) ?_
          refine lv_istore (lv' := [(6, .int (4 : Int32)), (5, .ref (ga G i_5)), (0, .ref (ga G 0)), (1, .int x1), (2, .int x2), (3, .int x3), (4, .int x4)]) F.1.1 F.1.2.1 dX5_wall_60 hl (by decide) rfl (fun ls hl => ?_)
          refine lv_iload F.1.1 F.1.2.1 dX5_wall_62 (lv_at hl 0 rfl) ?_
          refine lv_if_eq (tgt := 74) F.1.1 F.1.2.1 dX5_wall_64 (by decide) (fun h => absurd h (by decide)) (fun _ => ?_)
          refine lv_aload_n F.1.1 F.1.2.1 dX5_wall_67 rfl (lv_at hl 2 rfl) ?_
          refine lv_iload F.1.1 F.1.2.1 dX5_wall_68 (lv_at hl 0 rfl) ?_
          obtain ⟨r_39, μ_37, hc_38, hf⟩ := bnd_some hf
          refine rV1 (R := rmX5_wall) (As := [.int (4 : Int32)]) (rest := []) F hP hS hl (mX5_failed l G F.2.2.2.2 (4 : Int32) _ _ _ hc_38) gX5_wall_X5_failed rfl hdX5_failed rfl rfl rfl ⟨Nat.le_of_ble_eq_true rfl, Nat.le_of_ble_eq_true rfl⟩ (by decide) rfl rfl rfl (Nat.le_of_ble_eq_true rfl) ⟨Nat.le_of_ble_eq_true rfl, Nat.le_of_ble_eq_true rfl⟩ dX5_wall_70 (fun H locs hP hS => ?_)
          exact retI F hP hS dX5_wall_73 hf
    · refine lv_bipush (v := (-2 : Int32)) F.1.1 F.1.2.1 dX5_wall_27 (by decide) ?_
      exact retI F hP hS dX5_wall_29 hf
abbrev rmX4_layerAt : Room := { frames := 0, cells := 0, slots := 0, locals := 0 }
theorem hdX4_layerAt : yX4_layerAt.cls = RX4 ∧ yX4_layerAt.cls ≠ "java/lang/invoke/MethodHandle" ∧ yX4_layerAt.cls ≠ "java/lang/invoke/VarHandle" ∧ (parseMethodDescriptor yX4_layerAt.desc).map (fun d => d.parameters.length) = some 1 := by decide +kernel
theorem kX4_layerAt_11 : Cond.fieldLink RX4 11 "PaperLayers$Wall" "layers" "[LPaperLayers$Layer;" ∈ wsX4_layerAt := List.mem_cons_of_mem _ (List.mem_append_left _ (List.mem_of_getElem? (i := 1) rfl))
theorem kX4_layerAt_18 : Cond.fieldLink RX4 18 "PaperLayers$Wall" "count" "I" ∈ wsX4_layerAt := List.mem_cons_of_mem _ (List.mem_append_left _ (List.mem_of_getElem? (i := 0) rfl))
theorem inX4_layerAt_4 : ∀ w ∈ wsX40, w ∈ wsX4_layerAt := fun _ h => List.mem_cons_of_mem _ (List.mem_append_right _ (h))
set_option maxHeartbeats 4000000 in
set_option maxRecDepth 100000 in
theorem mX4_layerAt (l : Launch) (G : GT) (hG : GD G) (w : Nat) (sw : sh w = 4) (x1 : Int32) (μ : Mem) (r : Option Nat) (μ' : Mem) (hf : fX4_layerAt w x1 μ = some (r, μ')) : Ct l yX4_layerAt wsX4_layerAt rmX4_layerAt G [.ref (ga G w), .int x1] μ (some (vo G r)) μ' := by
  refine Ct.of (cc := cX4_layerAt) (maxL := 2) (ret := (some (.object "PaperLayers$Layer"))) (own := RX4) hG (by decide) rfl rfl (Nat.le_of_ble_eq_true rfl) ?_
  intro p e s m args below meth c ls H locs F hl hP hS
  have hl : lv_has ls 2 [(0, .ref (ga G w)), (1, .int x1)] := hl
  unfold fX4_layerAt at hf
  refine lv_iload_n F.1.1 F.1.2.1 dX4_layerAt_0 rfl (lv_at hl 1 rfl) ?_
  refine jz_lt (tgt := 27) F dX4_layerAt_1 (by decide) hf (fun hf => ?_) (fun hf => ?_)
  · refine lv_null F.1.1 F.1.2.1 dX4_layerAt_27 ?_
    exact retN F hP hS dX4_layerAt_28 hf
  · refine lv_iload_n F.1.1 F.1.2.1 dX4_layerAt_4 rfl (lv_at hl 1 rfl) ?_
    refine lv_aload_n F.1.1 F.1.2.1 dX4_layerAt_5 rfl (lv_at hl 0 rfl) ?_
    refine gt_4_1 F hP w sw inX4_layerAt_4 kX4_layerAt_18 dX4_layerAt_6 ?_
    refine jc_ge (tgt := 27) F dX4_layerAt_9 (by decide) hf (fun hf => ?_) (fun hf => ?_)
    · refine lv_null F.1.1 F.1.2.1 dX4_layerAt_27 ?_
      exact retN F hP hS dX4_layerAt_28 hf
    · refine lv_iload_n F.1.1 F.1.2.1 dX4_layerAt_12 rfl (lv_at hl 1 rfl) ?_
      refine lv_bipush (v := (6 : Int32)) F.1.1 F.1.2.1 dX4_layerAt_13 (by decide) ?_
      refine jc_ge (tgt := 27) F dX4_layerAt_15 (by decide) hf (fun hf => ?_) (fun hf => ?_)
      · refine lv_null F.1.1 F.1.2.1 dX4_layerAt_27 ?_
        exact retN F hP hS dX4_layerAt_28 hf
      · refine lv_aload_n F.1.1 F.1.2.1 dX4_layerAt_18 rfl (lv_at hl 0 rfl) ?_
        refine gt_4_0 F hP w sw inX4_layerAt_4 kX4_layerAt_11 dX4_layerAt_19 (fun s_1 => ?_)
        refine lv_iload_n F.1.1 F.1.2.1 dX4_layerAt_22 rfl (lv_at hl 1 rfl) ?_
        refine r_aaL F hP (w + 1) s_1 dX4_layerAt_23 hf (fun s_2 hf => ?_)
        refine lv_goto (tgt := 28) F.1.1 F.1.2.1 dX4_layerAt_24 (by decide) ?_
        exact retA F hP hS dX4_layerAt_28 hf
theorem shX4_layerAt_r {w : Nat} {x1 : Int32} {μ μ' : Mem} {i : Nat} (sw : sh w = 4) (h : fX4_layerAt w x1 μ = some (some i, μ')) : sh i = 0 := by
  unfold fX4_layerAt at h
  split at h
  · cases h
  · split at h
    · cases h
    · split at h
      · cases h
      · obtain ⟨hi, h⟩ := ifs h
        cases h
        exact sh_8l (sh_4a sw) (inb_lt hi)
abbrev rmX0_grip : Room := { frames := 0, cells := 0, slots := 0, locals := 0 }
theorem hdX0_grip : yX0_grip.cls = RX0 ∧ yX0_grip.cls ≠ "java/lang/invoke/MethodHandle" ∧ yX0_grip.cls ≠ "java/lang/invoke/VarHandle" ∧ (parseMethodDescriptor yX0_grip.desc).map (fun d => d.parameters.length) = some 0 := by decide +kernel
theorem kX0_grip_15 : Cond.fieldLink RX0 15 "PaperLayers$Layer" "hold" "I" ∈ wsX0_grip := List.mem_cons_of_mem _ (List.mem_append_left _ (List.mem_of_getElem? (i := 1) rfl))
theorem kX0_grip_9 : Cond.fieldLink RX0 9 "PaperLayers$Layer" "kind" "I" ∈ wsX0_grip := List.mem_cons_of_mem _ (List.mem_append_left _ (List.mem_of_getElem? (i := 0) rfl))
theorem inX0_grip_0 : ∀ w ∈ wsX00, w ∈ wsX0_grip := fun _ h => List.mem_cons_of_mem _ (List.mem_append_right _ (h))
set_option maxHeartbeats 4000000 in
set_option maxRecDepth 100000 in
theorem mX0_grip (l : Launch) (G : GT) (hG : GD G) (i : Nat) (si : sh i = 0) (μ : Mem) (r : Int32) (μ' : Mem) (hf : fX0_grip i μ = some (r, μ')) : Ct l yX0_grip wsX0_grip rmX0_grip G [.ref (ga G i)] μ (some (.int r)) μ' := by
  refine Ct.of (cc := cX0_grip) (maxL := 1) (ret := (some .int)) (own := RX0) hG (by decide) rfl rfl (Nat.le_of_ble_eq_true rfl) ?_
  intro p e s m args below meth c ls H locs F hl hP hS
  have hl : lv_has ls 1 [(0, .ref (ga G i))] := hl
  unfold fX0_grip at hf
  refine lv_aload_n F.1.1 F.1.2.1 dX0_grip_0 rfl (lv_at hl 0 rfl) ?_
  refine gt_0_0 F hP i si inX0_grip_0 kX0_grip_9 dX0_grip_1 ?_
  refine split_sw (k := (1 : Int32)) hf (fun hk0 hf => ?_) (fun hn0 hf => ?_)
  · refine lv_lookup (tgt := 39) (off := 35) F.1.1 F.1.2.1 dX0_grip_4 (by decide) (by rw [hk0]; decide) (by decide) ?_
    refine lv_aload_n F.1.1 F.1.2.1 dX0_grip_39 rfl (lv_at hl 0 rfl) ?_
    refine gt_0_1 F hP i si inX0_grip_0 kX0_grip_15 dX0_grip_40 ?_
    refine lv_iconst (v := (1 : Int32)) F.1.1 F.1.2.1 dX0_grip_43 (by decide) ?_
    refine lv_iadd F.1.1 F.1.2.1 dX0_grip_44 ?_
    exact retI F hP hS dX0_grip_45 hf
  refine split_sw (k := (2 : Int32)) hf (fun hk1 hf => ?_) (fun hn1 hf => ?_)
  · refine lv_lookup (tgt := 32) (off := 28) F.1.1 F.1.2.1 dX0_grip_4 (by decide) (by rw [hk1]; decide) (by decide) ?_
    refine lv_iconst (v := (2 : Int32)) F.1.1 F.1.2.1 dX0_grip_32 (by decide) ?_
    refine lv_aload_n F.1.1 F.1.2.1 dX0_grip_33 rfl (lv_at hl 0 rfl) ?_
    refine gt_0_1 F hP i si inX0_grip_0 kX0_grip_15 dX0_grip_34 ?_
    refine lv_imul F.1.1 F.1.2.1 dX0_grip_37 ?_
    exact retI F hP hS dX0_grip_38 hf
  refine lv_lookup (tgt := 46) (off := 42) F.1.1 F.1.2.1 dX0_grip_4 (by decide) (by refine (lv_osw hn0 (by decide)).trans ?_; refine (lv_osw hn1 (by decide)).trans ?_; rfl) (by decide) ?_
  refine lv_aload_n F.1.1 F.1.2.1 dX0_grip_46 rfl (lv_at hl 0 rfl) ?_
  refine gt_0_1 F hP i si inX0_grip_0 kX0_grip_15 dX0_grip_47 ?_
  exact retI F hP hS dX0_grip_50 hf
abbrev rmX4_warmth : Room := { frames := 0, cells := 0, slots := 0, locals := 0 }
theorem hdX4_warmth : yX4_warmth.cls = RX4 ∧ yX4_warmth.cls ≠ "java/lang/invoke/MethodHandle" ∧ yX4_warmth.cls ≠ "java/lang/invoke/VarHandle" ∧ (parseMethodDescriptor yX4_warmth.desc).map (fun d => d.parameters.length) = some 0 := by decide +kernel
theorem kX4_warmth_22 : Cond.fieldLink RX4 22 "PaperLayers$Wall" "warm" "I" ∈ wsX4_warmth := List.mem_cons_of_mem _ (List.mem_append_left _ (List.mem_of_getElem? (i := 0) rfl))
theorem kX4_warmth_25 : Cond.fieldLink RX4 25 "PaperLayers$Wall" "damp" "I" ∈ wsX4_warmth := List.mem_cons_of_mem _ (List.mem_append_left _ (List.mem_of_getElem? (i := 1) rfl))
theorem inX4_warmth_4 : ∀ w ∈ wsX40, w ∈ wsX4_warmth := fun _ h => List.mem_cons_of_mem _ (List.mem_append_right _ (h))
set_option maxHeartbeats 4000000 in
set_option maxRecDepth 100000 in
theorem mX4_warmth (l : Launch) (G : GT) (hG : GD G) (w : Nat) (sw : sh w = 4) (μ : Mem) (r : Int32) (μ' : Mem) (hf : fX4_warmth w μ = some (r, μ')) : Ct l yX4_warmth wsX4_warmth rmX4_warmth G [.ref (ga G w)] μ (some (.int r)) μ' := by
  refine Ct.of (cc := cX4_warmth) (maxL := 1) (ret := (some .int)) (own := RX4) hG (by decide) rfl rfl (Nat.le_of_ble_eq_true rfl) ?_
  intro p e s m args below meth c ls H locs F hl hP hS
  have hl : lv_has ls 1 [(0, .ref (ga G w))] := hl
  unfold fX4_warmth at hf
  refine lv_aload_n F.1.1 F.1.2.1 dX4_warmth_0 rfl (lv_at hl 0 rfl) ?_
  refine gt_4_2 F hP w sw inX4_warmth_4 kX4_warmth_22 dX4_warmth_1 ?_
  refine lv_aload_n F.1.1 F.1.2.1 dX4_warmth_4 rfl (lv_at hl 0 rfl) ?_
  refine gt_4_3 F hP w sw inX4_warmth_4 kX4_warmth_25 dX4_warmth_5 ?_
  refine lv_isub F.1.1 F.1.2.1 dX4_warmth_8 ?_
  exact retI F hP hS dX4_warmth_9 hf
abbrev rmX4_liftedBy : Room := { frames := 1, cells := 0, slots := 0, locals := 20 }
theorem hdX4_liftedBy : yX4_liftedBy.cls = RX4 ∧ yX4_liftedBy.cls ≠ "java/lang/invoke/MethodHandle" ∧ yX4_liftedBy.cls ≠ "java/lang/invoke/VarHandle" ∧ (parseMethodDescriptor yX4_liftedBy.desc).map (fun d => d.parameters.length) = some 1 := by decide +kernel
theorem kX4_liftedBy_11 : Cond.fieldLink RX4 11 "PaperLayers$Wall" "layers" "[LPaperLayers$Layer;" ∈ wsX4_liftedBy := List.mem_cons_of_mem _ (List.mem_append_left _ (List.mem_append_left _ (List.mem_of_getElem? (i := 1) rfl)))
theorem kX4_liftedBy_18 : Cond.fieldLink RX4 18 "PaperLayers$Wall" "count" "I" ∈ wsX4_liftedBy := List.mem_cons_of_mem _ (List.mem_append_left _ (List.mem_append_left _ (List.mem_of_getElem? (i := 0) rfl)))
theorem inX4_liftedBy_4 : ∀ w ∈ wsX40, w ∈ wsX4_liftedBy := fun _ h => List.mem_cons_of_mem _ (List.mem_append_left _ (List.mem_append_right _ (h)))
set_option maxHeartbeats 4000000 in
set_option maxRecDepth 100000 in
theorem lX4_liftedBy_L2 (l : Launch) (G : GT) {p : Program} {e : Env} {s : State} {m : MethodId} {args : Array Value} {below : List Frame} {meth : Method} {c : Code} (F : Fx p s m args meth c cX4_liftedBy 3 wsX4_liftedBy RX4 (some .int) G) (w : Nat) (sw : sh w = 4) (x1 : Int32) (r : Int32) (μ' : Mem) : ∀ (fuel : Nat), ∀ (x2 : Int32) (μ : Mem) (H : Heap) (locs : List Loc) (ls : Array Slot), Hh G μ H → va_S (gA G) s.heap H locs → lv_has ls 3 [(0, .ref (ga G w)), (1, .int x1), (2, .int x2)] → fX4_liftedBy_L2 w x1 fuel x2 μ = some (r, μ') → W p l e rmX4_liftedBy s m args below meth c H locs 0 0 (MQ below (Qg G (some (.int r)) μ') args s 0 0 (gA G)) (F0 m 2 ls []) := by
  intro fuel
  induction fuel with
  | zero =>
    intro x2 μ H locs ls hP hS hl hf
    exact absurd hf (by intro h; cases h)
  | succ fuel ih2 =>
    intro x2 μ H locs ls hP hS hl hf
    have hf : sX4_liftedBy_L2 (fX4_liftedBy_L2 w x1 fuel) w x1 x2 μ = some (r, μ') := hf
    unfold sX4_liftedBy_L2 at hf
    refine lv_iload_n F.1.1 F.1.2.1 dX4_liftedBy_2 rfl (lv_at hl 2 rfl) ?_
    refine lv_aload_n F.1.1 F.1.2.1 dX4_liftedBy_3 rfl (lv_at hl 0 rfl) ?_
    refine gt_4_1 F hP w sw inX4_liftedBy_4 kX4_liftedBy_18 dX4_liftedBy_4 ?_
    refine jc_ge (tgt := 31) F dX4_liftedBy_7 (by decide) hf (fun hf => ?_) (fun hf => ?_)
    · refine lv_aload_n F.1.1 F.1.2.1 dX4_liftedBy_31 rfl (lv_at hl 0 rfl) ?_
      refine gt_4_1 F hP w sw inX4_liftedBy_4 kX4_liftedBy_18 dX4_liftedBy_32 ?_
      exact retI F hP hS dX4_liftedBy_35 hf
    · refine lv_aload_n F.1.1 F.1.2.1 dX4_liftedBy_10 rfl (lv_at hl 0 rfl) ?_
      refine gt_4_0 F hP w sw inX4_liftedBy_4 kX4_liftedBy_11 dX4_liftedBy_11 (fun s_1 => ?_)
      refine lv_iload_n F.1.1 F.1.2.1 dX4_liftedBy_14 rfl (lv_at hl 2 rfl) ?_
      refine r_aaL F hP (w + 1) s_1 dX4_liftedBy_15 hf (fun s_2 hf => ?_)
      obtain ⟨r_5, μ_3, hc_4, hf⟩ := bnd_some hf
      refine rV1 (R := rmX4_liftedBy) (As := []) (rest := []) F hP hS hl (mX0_grip l G F.2.2.2.2 ((w + 1) + 1 + (x2).toNatClampNeg) s_2 _ _ _ hc_4) gX4_liftedBy_X0_grip s_2 hdX0_grip rfl rfl rfl ⟨Nat.le_of_ble_eq_true rfl, Nat.le_of_ble_eq_true rfl⟩ (by decide) rfl rfl rfl (Nat.le_of_ble_eq_true rfl) ⟨Nat.le_of_ble_eq_true rfl, Nat.le_of_ble_eq_true rfl⟩ dX4_liftedBy_16 (fun H locs hP hS => ?_)
      refine lv_iload_n F.1.1 F.1.2.1 dX4_liftedBy_19 rfl (lv_at hl 1 rfl) ?_
      refine jc_le (tgt := 25) F dX4_liftedBy_20 (by decide) hf (fun hf => ?_) (fun hf => ?_)
      · refine top_n hf (fun y_6 ey_6 hf => ?_)
        refine lv_iinc (v := y_6) (lv' := [(2, .int y_6), (0, .ref (ga G w)), (1, .int x1)]) F.1.1 F.1.2.1 dX4_liftedBy_25 hl (k := 2) rfl ey_6 (by decide) rfl (fun ls hl => ?_)
        refine lv_goto (tgt := 2) F.1.1 F.1.2.1 dX4_liftedBy_28 (by decide) ?_
        exact ih2 y_6 μ_3 H locs ls hP hS (lv_sub hl [1, 2, 0] rfl) hf
      · refine lv_iload_n F.1.1 F.1.2.1 dX4_liftedBy_23 rfl (lv_at hl 2 rfl) ?_
        exact retI F hP hS dX4_liftedBy_24 hf
set_option maxHeartbeats 4000000 in
set_option maxRecDepth 100000 in
theorem mX4_liftedBy (l : Launch) (G : GT) (hG : GD G) (w : Nat) (sw : sh w = 4) (x1 : Int32) (μ : Mem) (r : Int32) (μ' : Mem) (hf : fX4_liftedBy w x1 μ = some (r, μ')) : Ct l yX4_liftedBy wsX4_liftedBy rmX4_liftedBy G [.ref (ga G w), .int x1] μ (some (.int r)) μ' := by
  refine Ct.of (cc := cX4_liftedBy) (maxL := 3) (ret := (some .int)) (own := RX4) hG (by decide) rfl rfl (Nat.le_of_ble_eq_true rfl) ?_
  intro p e s m args below meth c ls H locs F hl hP hS
  have hl : lv_has ls 3 [(0, .ref (ga G w)), (1, .int x1)] := hl
  unfold fX4_liftedBy at hf
  refine lv_iconst (v := (0 : Int32)) F.1.1 F.1.2.1 dX4_liftedBy_0 (by decide) ?_
  refine lv_istore_n (lv' := [(2, .int (0 : Int32)), (0, .ref (ga G w)), (1, .int x1)]) F.1.1 F.1.2.1 dX4_liftedBy_1 rfl hl (by decide) rfl (fun ls hl => ?_)
  exact lX4_liftedBy_L2 l G F w sw x1 _ _ FU (0 : Int32) μ H locs ls hP hS (lv_sub hl [1, 2, 0] rfl) hf
abbrev rmX4_heardBy : Room := { frames := 1, cells := 0, slots := 0, locals := 20 }
theorem hdX4_heardBy : yX4_heardBy.cls = RX4 ∧ yX4_heardBy.cls ≠ "java/lang/invoke/MethodHandle" ∧ yX4_heardBy.cls ≠ "java/lang/invoke/VarHandle" ∧ (parseMethodDescriptor yX4_heardBy.desc).map (fun d => d.parameters.length) = some 1 := by decide +kernel
theorem kX4_heardBy_11 : Cond.fieldLink RX4 11 "PaperLayers$Wall" "layers" "[LPaperLayers$Layer;" ∈ wsX4_heardBy := List.mem_cons_of_mem _ (List.mem_append_left _ (List.mem_append_left _ (List.mem_of_getElem? (i := 1) rfl)))
theorem kX4_heardBy_18 : Cond.fieldLink RX4 18 "PaperLayers$Wall" "count" "I" ∈ wsX4_heardBy := List.mem_cons_of_mem _ (List.mem_append_left _ (List.mem_append_left _ (List.mem_of_getElem? (i := 0) rfl)))
theorem kX4_heardBy_32 : Cond.fieldLink RX4 32 "PaperLayers$Layer" "kind" "I" ∈ wsX4_heardBy := List.mem_cons_of_mem _ (List.mem_append_left _ (List.mem_append_left _ (List.mem_of_getElem? (i := 2) rfl)))
theorem inX4_heardBy_0 : ∀ w ∈ wsX00, w ∈ wsX4_heardBy := fun _ h => List.mem_cons_of_mem _ (List.mem_append_right _ (h))
theorem inX4_heardBy_4 : ∀ w ∈ wsX40, w ∈ wsX4_heardBy := fun _ h => List.mem_cons_of_mem _ (List.mem_append_left _ (List.mem_append_right _ (h)))
set_option maxHeartbeats 4000000 in
set_option maxRecDepth 100000 in
theorem lX4_heardBy_L2 (l : Launch) (G : GT) {p : Program} {e : Env} {s : State} {m : MethodId} {args : Array Value} {below : List Frame} {meth : Method} {c : Code} (F : Fx p s m args meth c cX4_heardBy 3 wsX4_heardBy RX4 (some .int) G) (w : Nat) (sw : sh w = 4) (x1 : Int32) (r : Int32) (μ' : Mem) : ∀ (fuel : Nat), ∀ (x2 : Int32) (μ : Mem) (H : Heap) (locs : List Loc) (ls : Array Slot), Hh G μ H → va_S (gA G) s.heap H locs → lv_has ls 3 [(0, .ref (ga G w)), (1, .int x1), (2, .int x2)] → fX4_heardBy_L2 w x1 fuel x2 μ = some (r, μ') → W p l e rmX4_heardBy s m args below meth c H locs 0 0 (MQ below (Qg G (some (.int r)) μ') args s 0 0 (gA G)) (F0 m 2 ls []) := by
  intro fuel
  induction fuel with
  | zero =>
    intro x2 μ H locs ls hP hS hl hf
    exact absurd hf (by intro h; cases h)
  | succ fuel ih2 =>
    intro x2 μ H locs ls hP hS hl hf
    have hf : sX4_heardBy_L2 (fX4_heardBy_L2 w x1 fuel) w x1 x2 μ = some (r, μ') := hf
    unfold sX4_heardBy_L2 at hf
    refine lv_iload_n F.1.1 F.1.2.1 dX4_heardBy_2 rfl (lv_at hl 2 rfl) ?_
    refine lv_aload_n F.1.1 F.1.2.1 dX4_heardBy_3 rfl (lv_at hl 0 rfl) ?_
    refine gt_4_1 F hP w sw inX4_heardBy_4 kX4_heardBy_18 dX4_heardBy_4 ?_
    refine jc_ge (tgt := 44) F dX4_heardBy_7 (by decide) hf (fun hf => ?_) (fun hf => ?_)
    · refine lv_aload_n F.1.1 F.1.2.1 dX4_heardBy_44 rfl (lv_at hl 0 rfl) ?_
      refine gt_4_1 F hP w sw inX4_heardBy_4 kX4_heardBy_18 dX4_heardBy_45 ?_
      exact retI F hP hS dX4_heardBy_48 hf
    · refine lv_aload_n F.1.1 F.1.2.1 dX4_heardBy_10 rfl (lv_at hl 0 rfl) ?_
      refine gt_4_0 F hP w sw inX4_heardBy_4 kX4_heardBy_11 dX4_heardBy_11 (fun s_1 => ?_)
      refine lv_iload_n F.1.1 F.1.2.1 dX4_heardBy_14 rfl (lv_at hl 2 rfl) ?_
      refine r_aaL F hP (w + 1) s_1 dX4_heardBy_15 hf (fun s_2 hf => ?_)
      refine gt_0_0 F hP ((w + 1) + 1 + (x2).toNatClampNeg) s_2 inX4_heardBy_0 kX4_heardBy_32 dX4_heardBy_16 ?_
      refine lv_iconst (v := (2 : Int32)) F.1.1 F.1.2.1 dX4_heardBy_19 (by decide) ?_
      refine jc_eq (tgt := 36) F dX4_heardBy_20 (by decide) hf (fun hf => ?_) (fun hf => ?_)
      · refine lv_iload_n F.1.1 F.1.2.1 dX4_heardBy_36 rfl (lv_at hl 2 rfl) ?_
        exact retI F hP hS dX4_heardBy_37 hf
      · refine lv_aload_n F.1.1 F.1.2.1 dX4_heardBy_23 rfl (lv_at hl 0 rfl) ?_
        refine gt_4_0 F hP w sw inX4_heardBy_4 kX4_heardBy_11 dX4_heardBy_24 (fun s_3 => ?_)
        refine lv_iload_n F.1.1 F.1.2.1 dX4_heardBy_27 rfl (lv_at hl 2 rfl) ?_
        refine r_aaL F hP (w + 1) s_3 dX4_heardBy_28 hf (fun s_4 hf => ?_)
        obtain ⟨r_7, μ_5, hc_6, hf⟩ := bnd_some hf
        refine rV1 (R := rmX4_heardBy) (As := []) (rest := []) F hP hS hl (mX0_grip l G F.2.2.2.2 ((w + 1) + 1 + (x2).toNatClampNeg) s_4 _ _ _ hc_6) gX4_heardBy_X0_grip s_4 hdX0_grip rfl rfl rfl ⟨Nat.le_of_ble_eq_true rfl, Nat.le_of_ble_eq_true rfl⟩ (by decide) rfl rfl rfl (Nat.le_of_ble_eq_true rfl) ⟨Nat.le_of_ble_eq_true rfl, Nat.le_of_ble_eq_true rfl⟩ dX4_heardBy_29 (fun H locs hP hS => ?_)
        refine lv_iload_n F.1.1 F.1.2.1 dX4_heardBy_32 rfl (lv_at hl 1 rfl) ?_
        refine jc_le (tgt := 38) F dX4_heardBy_33 (by decide) hf (fun hf => ?_) (fun hf => ?_)
        · refine top_n hf (fun y_8 ey_8 hf => ?_)
          refine lv_iinc (v := y_8) (lv' := [(2, .int y_8), (0, .ref (ga G w)), (1, .int x1)]) F.1.1 F.1.2.1 dX4_heardBy_38 hl (k := 2) rfl ey_8 (by decide) rfl (fun ls hl => ?_)
          refine lv_goto (tgt := 2) F.1.1 F.1.2.1 dX4_heardBy_41 (by decide) ?_
          exact ih2 y_8 μ_5 H locs ls hP hS (lv_sub hl [1, 2, 0] rfl) hf
        · refine lv_iload_n F.1.1 F.1.2.1 dX4_heardBy_36 rfl (lv_at hl 2 rfl) ?_
          exact retI F hP hS dX4_heardBy_37 hf
set_option maxHeartbeats 4000000 in
set_option maxRecDepth 100000 in
theorem mX4_heardBy (l : Launch) (G : GT) (hG : GD G) (w : Nat) (sw : sh w = 4) (x1 : Int32) (μ : Mem) (r : Int32) (μ' : Mem) (hf : fX4_heardBy w x1 μ = some (r, μ')) : Ct l yX4_heardBy wsX4_heardBy rmX4_heardBy G [.ref (ga G w), .int x1] μ (some (.int r)) μ' := by
  refine Ct.of (cc := cX4_heardBy) (maxL := 3) (ret := (some .int)) (own := RX4) hG (by decide) rfl rfl (Nat.le_of_ble_eq_true rfl) ?_
  intro p e s m args below meth c ls H locs F hl hP hS
  have hl : lv_has ls 3 [(0, .ref (ga G w)), (1, .int x1)] := hl
  unfold fX4_heardBy at hf
  refine lv_iconst (v := (0 : Int32)) F.1.1 F.1.2.1 dX4_heardBy_0 (by decide) ?_
  refine lv_istore_n (lv' := [(2, .int (0 : Int32)), (0, .ref (ga G w)), (1, .int x1)]) F.1.1 F.1.2.1 dX4_heardBy_1 rfl hl (by decide) rfl (fun ls hl => ?_)
  exact lX4_heardBy_L2 l G F w sw x1 _ _ FU (0 : Int32) μ H locs ls hP hS (lv_sub hl [1, 2, 0] rfl) hf
abbrev rmX5_ofLayer : Room := { frames := 2, cells := 0, slots := 0, locals := 42 }
theorem hdX5_ofLayer : yX5_ofLayer.cls = RX5 ∧ yX5_ofLayer.cls ≠ "java/lang/invoke/MethodHandle" ∧ yX5_ofLayer.cls ≠ "java/lang/invoke/VarHandle" ∧ (parseMethodDescriptor yX5_ofLayer.desc).map (fun d => d.parameters.length) = some 2 := by decide +kernel
theorem kX5_ofLayer_12 : Cond.fieldLink RX5 12 "PaperLayers" "now" "LPaperLayers$Wall;" ∈ wsX5_ofLayer := List.mem_cons_of_mem _ (List.mem_append_left _ (List.mem_append_left _ (List.mem_append_left _ (List.mem_append_left _ (List.mem_of_getElem? (i := 0) rfl)))))
theorem kX5_ofLayer_81 : Cond.fieldLink RX5 81 "PaperLayers$Layer" "kind" "I" ∈ wsX5_ofLayer := List.mem_cons_of_mem _ (List.mem_append_left _ (List.mem_append_left _ (List.mem_append_left _ (List.mem_append_left _ (List.mem_of_getElem? (i := 1) rfl)))))
theorem kX5_ofLayer_86 : Cond.fieldLink RX5 86 "PaperLayers$Layer" "hold" "I" ∈ wsX5_ofLayer := List.mem_cons_of_mem _ (List.mem_append_left _ (List.mem_append_left _ (List.mem_append_left _ (List.mem_append_left _ (List.mem_of_getElem? (i := 2) rfl)))))
theorem kX5_ofLayer_89 : Cond.fieldLink RX5 89 "PaperLayers$Layer" "advice" "I" ∈ wsX5_ofLayer := List.mem_cons_of_mem _ (List.mem_append_left _ (List.mem_append_left _ (List.mem_append_left _ (List.mem_append_left _ (List.mem_of_getElem? (i := 3) rfl)))))
theorem inX5_ofLayer_0 : ∀ w ∈ wsX00, w ∈ wsX5_ofLayer := fun _ h => List.mem_cons_of_mem _ (List.mem_append_left _ (List.mem_append_right _ (h)))
theorem inX5_ofLayer_5 : ∀ w ∈ wsX50, w ∈ wsX5_ofLayer := fun _ h => List.mem_cons_of_mem _ (List.mem_append_left _ (List.mem_append_left _ (List.mem_append_right _ (h))))
set_option maxHeartbeats 4000000 in
set_option maxRecDepth 100000 in
theorem mX5_ofLayer (l : Launch) (G : GT) (hG : GD G) (x1 : Int32) (x2 : Int32) (μ : Mem) (r : Int32) (μ' : Mem) (hf : fX5_ofLayer x1 x2 μ = some (r, μ')) : Ct l yX5_ofLayer wsX5_ofLayer rmX5_ofLayer G [.ref (ga G 0), .int x1, .int x2] μ (some (.int r)) μ' := by
  refine Ct.of (cc := cX5_ofLayer) (maxL := 4) (ret := (some .int)) (own := RX5) hG (by decide) rfl rfl (Nat.le_of_ble_eq_true rfl) ?_
  intro p e s m args below meth c ls H locs F hl hP hS
  have hl : lv_has ls 4 [(0, .ref (ga G 0)), (1, .int x1), (2, .int x2)] := hl
  unfold fX5_ofLayer at hf
  refine lv_aload_n F.1.1 F.1.2.1 dX5_ofLayer_0 rfl (lv_at hl 0 rfl) ?_
  refine gt_5_0 F hP 0 rfl inX5_ofLayer_5 kX5_ofLayer_12 dX5_ofLayer_1 ?_
  refine lv_iload_n F.1.1 F.1.2.1 dX5_ofLayer_4 rfl (lv_at hl 1 rfl) ?_
  obtain ⟨r_3, μ_1, hc_2, hf⟩ := bnd_some hf
  refine rV1 (R := rmX5_ofLayer) (As := [.int x1]) (rest := []) F hP hS hl (mX4_layerAt l G F.2.2.2.2 1 rfl x1 _ _ _ hc_2) gX5_ofLayer_X4_layerAt rfl hdX4_layerAt rfl rfl rfl ⟨Nat.le_of_ble_eq_true rfl, Nat.le_of_ble_eq_true rfl⟩ (by decide) rfl rfl rfl (Nat.le_of_ble_eq_true rfl) ⟨Nat.le_of_ble_eq_true rfl, Nat.le_of_ble_eq_true rfl⟩ dX5_ofLayer_5 (fun H locs hP hS => ?_)
  refine top_o hf (fun hf => ?_) (fun i_4 ho_5 hf => ?_)
  · refine lv_astore_nN (lv' := [(3, .null), (0, .ref (ga G 0)), (1, .int x1), (2, .int x2)]) F.1.1 F.1.2.1 dX5_ofLayer_8 rfl hl (by decide) rfl (fun ls hl => ?_)
    refine lv_aload_nN F.1.1 F.1.2.1 dX5_ofLayer_9 rfl (lv_at hl 0 rfl) ?_
    refine lv_ifnonnullN F.1.1 F.1.2.1 dX5_ofLayer_10 ?_
    refine lv_iconst (v := (-1 : Int32)) F.1.1 F.1.2.1 dX5_ofLayer_13 (by decide) ?_
    exact retI F hP hS dX5_ofLayer_14 hf
  · have s_6 := shX4_layerAt_r rfl (ho_5 ▸ hc_2)
    refine lv_astore_n (lv' := [(3, .ref (ga G i_4)), (0, .ref (ga G 0)), (1, .int x1), (2, .int x2)]) F.1.1 F.1.2.1 dX5_ofLayer_8 rfl hl (by decide) rfl (fun ls hl => ?_)
    refine lv_aload_n F.1.1 F.1.2.1 dX5_ofLayer_9 rfl (lv_at hl 0 rfl) ?_
    refine lv_ifnonnull (tgt := 15) F.1.1 F.1.2.1 dX5_ofLayer_10 (by decide) ?_
    refine lv_iload_n F.1.1 F.1.2.1 dX5_ofLayer_15 rfl (lv_at hl 3 rfl) ?_
    refine split_sw (k := (0 : Int32)) hf (fun hk0 hf => ?_) (fun hn0 hf => ?_)
    · refine lv_tableIn (tgt := 56) (off := 40) F.1.1 F.1.2.1 dX5_ofLayer_16 (by rw [hk0]; decide) (by rw [hk0]; decide) (by rw [hk0]; rfl) (by decide) ?_
      refine lv_aload_n F.1.1 F.1.2.1 dX5_ofLayer_56 rfl (lv_at hl 0 rfl) ?_
      refine gt_0_0 F hP i_4 s_6 inX5_ofLayer_0 kX5_ofLayer_81 dX5_ofLayer_57 ?_
      exact retI F hP hS dX5_ofLayer_60 hf
    refine split_sw (k := (1 : Int32)) hf (fun hk1 hf => ?_) (fun hn1 hf => ?_)
    · refine lv_tableIn (tgt := 61) (off := 45) F.1.1 F.1.2.1 dX5_ofLayer_16 (by rw [hk1]; decide) (by rw [hk1]; decide) (by rw [hk1]; rfl) (by decide) ?_
      refine lv_aload_n F.1.1 F.1.2.1 dX5_ofLayer_61 rfl (lv_at hl 0 rfl) ?_
      refine gt_0_1 F hP i_4 s_6 inX5_ofLayer_0 kX5_ofLayer_86 dX5_ofLayer_62 ?_
      exact retI F hP hS dX5_ofLayer_65 hf
    refine split_sw (k := (2 : Int32)) hf (fun hk2 hf => ?_) (fun hn2 hf => ?_)
    · refine lv_tableIn (tgt := 66) (off := 50) F.1.1 F.1.2.1 dX5_ofLayer_16 (by rw [hk2]; decide) (by rw [hk2]; decide) (by rw [hk2]; rfl) (by decide) ?_
      refine lv_aload_n F.1.1 F.1.2.1 dX5_ofLayer_66 rfl (lv_at hl 0 rfl) ?_
      refine gt_0_2 F hP i_4 s_6 inX5_ofLayer_0 kX5_ofLayer_89 dX5_ofLayer_67 ?_
      exact retI F hP hS dX5_ofLayer_70 hf
    refine split_sw (k := (3 : Int32)) hf (fun hk3 hf => ?_) (fun hn3 hf => ?_)
    · refine lv_tableIn (tgt := 71) (off := 55) F.1.1 F.1.2.1 dX5_ofLayer_16 (by rw [hk3]; decide) (by rw [hk3]; decide) (by rw [hk3]; rfl) (by decide) ?_
      refine lv_aload_n F.1.1 F.1.2.1 dX5_ofLayer_71 rfl (lv_at hl 0 rfl) ?_
      obtain ⟨r_9, μ_7, hc_8, hf⟩ := bnd_some hf
      refine rV1 (R := rmX5_ofLayer) (As := []) (rest := []) F hP hS hl (mX0_grip l G F.2.2.2.2 i_4 s_6 _ _ _ hc_8) gX5_ofLayer_X0_grip s_6 hdX0_grip rfl rfl rfl ⟨Nat.le_of_ble_eq_true rfl, Nat.le_of_ble_eq_true rfl⟩ (by decide) rfl rfl rfl (Nat.le_of_ble_eq_true rfl) ⟨Nat.le_of_ble_eq_true rfl, Nat.le_of_ble_eq_true rfl⟩ dX5_ofLayer_72 (fun H locs hP hS => ?_)
      exact retI F hP hS dX5_ofLayer_75 hf
    refine split_sw (k := (4 : Int32)) hf (fun hk4 hf => ?_) (fun hn4 hf => ?_)
    · refine lv_tableIn (tgt := 76) (off := 60) F.1.1 F.1.2.1 dX5_ofLayer_16 (by rw [hk4]; decide) (by rw [hk4]; decide) (by rw [hk4]; rfl) (by decide) ?_
      refine lv_iload_n F.1.1 F.1.2.1 dX5_ofLayer_76 rfl (lv_at hl 2 rfl) ?_
      refine lv_aload_n F.1.1 F.1.2.1 dX5_ofLayer_77 rfl (lv_at hl 1 rfl) ?_
      refine gt_5_0 F hP 0 rfl inX5_ofLayer_5 kX5_ofLayer_12 dX5_ofLayer_78 ?_
      refine lv_aload_n F.1.1 F.1.2.1 dX5_ofLayer_81 rfl (lv_at hl 1 rfl) ?_
      refine gt_5_0 F hP 0 rfl inX5_ofLayer_5 kX5_ofLayer_12 dX5_ofLayer_82 ?_
      obtain ⟨r_12, μ_10, hc_11, hf⟩ := bnd_some hf
      refine rV1 (R := rmX5_ofLayer) (As := []) (rest := [.ref (ga G 1), .int x1]) F hP hS hl (mX4_warmth l G F.2.2.2.2 1 rfl _ _ _ hc_11) gX5_ofLayer_X4_warmth rfl hdX4_warmth rfl rfl rfl ⟨Nat.le_of_ble_eq_true rfl, Nat.le_of_ble_eq_true rfl⟩ (by decide) rfl rfl rfl (Nat.le_of_ble_eq_true rfl) ⟨Nat.le_of_ble_eq_true rfl, Nat.le_of_ble_eq_true rfl⟩ dX5_ofLayer_85 (fun H locs hP hS => ?_)
      obtain ⟨r_15, μ_13, hc_14, hf⟩ := bnd_some hf
      refine rV1 (R := rmX5_ofLayer) (As := [.int r_12]) (rest := [.int x1]) F hP hS hl (mX4_liftedBy l G F.2.2.2.2 1 rfl r_12 _ _ _ hc_14) gX5_ofLayer_X4_liftedBy rfl hdX4_liftedBy rfl rfl rfl ⟨Nat.le_of_ble_eq_true rfl, Nat.le_of_ble_eq_true rfl⟩ (by decide) rfl rfl rfl (Nat.le_of_ble_eq_true rfl) ⟨Nat.le_of_ble_eq_true rfl, Nat.le_of_ble_eq_true rfl⟩ dX5_ofLayer_88 (fun H locs hP hS => ?_)
      refine jc_ge (tgt := 98) F dX5_ofLayer_91 (by decide) hf (fun hf => ?_) (fun hf => ?_)
      · refine lv_iconst (v := (0 : Int32)) F.1.1 F.1.2.1 dX5_ofLayer_98 (by decide) ?_
        exact retI F hP hS dX5_ofLayer_99 hf
      · refine lv_iconst (v := (1 : Int32)) F.1.1 F.1.2.1 dX5_ofLayer_94 (by decide) ?_
        refine lv_goto (tgt := 99) F.1.1 F.1.2.1 dX5_ofLayer_95 (by decide) ?_
        exact retI F hP hS dX5_ofLayer_99 hf
    refine split_sw (k := (5 : Int32)) hf (fun hk5 hf => ?_) (fun hn5 hf => ?_)
    · refine lv_tableIn (tgt := 100) (off := 84) F.1.1 F.1.2.1 dX5_ofLayer_16 (by rw [hk5]; decide) (by rw [hk5]; decide) (by rw [hk5]; rfl) (by decide) ?_
      refine lv_iload_n F.1.1 F.1.2.1 dX5_ofLayer_100 rfl (lv_at hl 2 rfl) ?_
      refine lv_aload_n F.1.1 F.1.2.1 dX5_ofLayer_101 rfl (lv_at hl 1 rfl) ?_
      refine gt_5_0 F hP 0 rfl inX5_ofLayer_5 kX5_ofLayer_12 dX5_ofLayer_102 ?_
      refine lv_aload_n F.1.1 F.1.2.1 dX5_ofLayer_105 rfl (lv_at hl 1 rfl) ?_
      refine gt_5_0 F hP 0 rfl inX5_ofLayer_5 kX5_ofLayer_12 dX5_ofLayer_106 ?_
      obtain ⟨r_18, μ_16, hc_17, hf⟩ := bnd_some hf
      refine rV1 (R := rmX5_ofLayer) (As := []) (rest := [.ref (ga G 1), .int x1]) F hP hS hl (mX4_warmth l G F.2.2.2.2 1 rfl _ _ _ hc_17) gX5_ofLayer_X4_warmth rfl hdX4_warmth rfl rfl rfl ⟨Nat.le_of_ble_eq_true rfl, Nat.le_of_ble_eq_true rfl⟩ (by decide) rfl rfl rfl (Nat.le_of_ble_eq_true rfl) ⟨Nat.le_of_ble_eq_true rfl, Nat.le_of_ble_eq_true rfl⟩ dX5_ofLayer_109 (fun H locs hP hS => ?_)
      obtain ⟨r_21, μ_19, hc_20, hf⟩ := bnd_some hf
      refine rV1 (R := rmX5_ofLayer) (As := [.int r_18]) (rest := [.int x1]) F hP hS hl (mX4_heardBy l G F.2.2.2.2 1 rfl r_18 _ _ _ hc_20) gX5_ofLayer_X4_heardBy rfl hdX4_heardBy rfl rfl rfl ⟨Nat.le_of_ble_eq_true rfl, Nat.le_of_ble_eq_true rfl⟩ (by decide) rfl rfl rfl (Nat.le_of_ble_eq_true rfl) ⟨Nat.le_of_ble_eq_true rfl, Nat.le_of_ble_eq_true rfl⟩ dX5_ofLayer_112 (fun H locs hP hS => ?_)
      refine jc_ge (tgt := 122) F dX5_ofLayer_115 (by decide) hf (fun hf => ?_) (fun hf => ?_)
      · refine lv_iconst (v := (0 : Int32)) F.1.1 F.1.2.1 dX5_ofLayer_122 (by decide) ?_
        exact retI F hP hS dX5_ofLayer_123 hf
      · refine lv_iconst (v := (1 : Int32)) F.1.1 F.1.2.1 dX5_ofLayer_118 (by decide) ?_
        refine lv_goto (tgt := 123) F.1.1 F.1.2.1 dX5_ofLayer_119 (by decide) ?_
        exact retI F hP hS dX5_ofLayer_123 hf
    refine lv_tableOut (tgt := 124) F.1.1 F.1.2.1 dX5_ofLayer_16 (by have q0 := lv_neT hn0 (a := 0) (by decide); have q1 := lv_neT hn1 (a := 1) (by decide); have q2 := lv_neT hn2 (a := 2) (by decide); have q3 := lv_neT hn3 (a := 3) (by decide); have q4 := lv_neT hn4 (a := 4) (by decide); have q5 := lv_neT hn5 (a := 5) (by decide); omega) (by decide) ?_
    refine lv_bipush (v := (-2 : Int32)) F.1.1 F.1.2.1 dX5_ofLayer_124 (by decide) ?_
    exact retI F hP hS dX5_ofLayer_126 hf
