abbrev rmX2_note : Room := { frames := 0, cells := 0, slots := 0, locals := 0 }
theorem hdX2_note : yX2_note.cls = RX2 ∧ yX2_note.cls ≠ "java/lang/invoke/MethodHandle" ∧ yX2_note.cls ≠ "java/lang/invoke/VarHandle" ∧ (parseMethodDescriptor yX2_note.desc).map (fun d => d.parameters.length) = some 2 := by decide +kernel
theorem kX2_note_15 : Cond.fieldLink RX2 15 "PaperLayers$Readings" "counsels" "[I" ∈ wsX2_note := List.mem_cons_of_mem _ (List.mem_append_left _ (List.mem_of_getElem? (i := 2) rfl))
theorem kX2_note_18 : Cond.fieldLink RX2 18 "PaperLayers$Readings" "count" "I" ∈ wsX2_note := List.mem_cons_of_mem _ (List.mem_append_left _ (List.mem_of_getElem? (i := 0) rfl))
theorem kX2_note_9 : Cond.fieldLink RX2 9 "PaperLayers$Readings" "warmths" "[I" ∈ wsX2_note := List.mem_cons_of_mem _ (List.mem_append_left _ (List.mem_of_getElem? (i := 1) rfl))
theorem inX2_note_2 : ∀ w ∈ wsX20, w ∈ wsX2_note := fun _ h => List.mem_cons_of_mem _ (List.mem_append_right _ (h))
set_option maxHeartbeats 4000000 in
set_option maxRecDepth 100000 in
theorem mX2_note (l : Launch) (G : GT) (hG : GD G) (x1 : Int32) (x2 : Int32) (μ : Mem) (r : Int32) (μ' : Mem) (hf : fX2_note x1 x2 μ = some (r, μ')) : Ct l yX2_note wsX2_note rmX2_note G [.ref (ga G 17), .int x1, .int x2] μ (some (.int r)) μ' := by
  refine Ct.of (cc := cX2_note) (maxL := 3) (ret := (some .boolean)) (own := RX2) hG (by decide) rfl rfl (Nat.le_of_ble_eq_true rfl) ?_
  intro p e s m args below meth c ls H locs F hl hP hS
  have hl : lv_has ls 3 [(0, .ref (ga G 17)), (1, .int x1), (2, .int x2)] := hl
  unfold fX2_note at hf
  refine lv_aload_n F.1.1 F.1.2.1 dX2_note_0 rfl (lv_at hl 0 rfl) ?_
  refine gt_2_2 F hP 17 rfl inX2_note_2 kX2_note_18 dX2_note_1 ?_
  refine lv_bipush (v := (8 : Int32)) F.1.1 F.1.2.1 dX2_note_4 (by decide) ?_
  refine jc_lt (tgt := 11) F dX2_note_6 (by decide) hf (fun hf => ?_) (fun hf => ?_)
  · refine lv_aload_n F.1.1 F.1.2.1 dX2_note_11 rfl (lv_at hl 0 rfl) ?_
    refine gt_2_0 F hP 17 rfl inX2_note_2 kX2_note_9 dX2_note_12 ?_
    refine lv_aload_n F.1.1 F.1.2.1 dX2_note_15 rfl (lv_at hl 0 rfl) ?_
    refine gt_2_2 F hP 17 rfl inX2_note_2 kX2_note_18 dX2_note_16 ?_
    refine lv_iload_n F.1.1 F.1.2.1 dX2_note_19 rfl (lv_at hl 1 rfl) ?_
    refine r_ias F hP hS 18 rfl rfl dX2_note_20 hf (fun μ_1 H locs hP hS hf => ?_)
    refine lv_aload_n F.1.1 F.1.2.1 dX2_note_21 rfl (lv_at hl 0 rfl) ?_
    refine gt_2_1 F hP 17 rfl inX2_note_2 kX2_note_15 dX2_note_22 ?_
    refine lv_aload_n F.1.1 F.1.2.1 dX2_note_25 rfl (lv_at hl 0 rfl) ?_
    refine gt_2_2 F hP 17 rfl inX2_note_2 kX2_note_18 dX2_note_26 ?_
    refine lv_iload_n F.1.1 F.1.2.1 dX2_note_29 rfl (lv_at hl 2 rfl) ?_
    refine r_ias F hP hS 19 rfl rfl dX2_note_30 hf (fun μ_2 H locs hP hS hf => ?_)
    refine lv_aload_n F.1.1 F.1.2.1 dX2_note_31 rfl (lv_at hl 0 rfl) ?_
    refine lv_dup F.1.1 F.1.2.1 dX2_note_32 rfl ?_
    refine gt_2_2 F hP 17 rfl inX2_note_2 kX2_note_18 dX2_note_33 ?_
    refine lv_iconst (v := (1 : Int32)) F.1.1 F.1.2.1 dX2_note_36 (by decide) ?_
    refine lv_iadd F.1.1 F.1.2.1 dX2_note_37 ?_
    refine pt_2_2 F hP hS 17 rfl inX2_note_2 kX2_note_18 dX2_note_38 hf (fun μ_3 H locs hP hS hf => ?_)
    refine lv_iconst (v := (1 : Int32)) F.1.1 F.1.2.1 dX2_note_41 (by decide) ?_
    exact retC F hP hS dX2_note_42 (by decide) hf
  · refine lv_iconst (v := (0 : Int32)) F.1.1 F.1.2.1 dX2_note_9 (by decide) ?_
    exact retC F hP hS dX2_note_10 (by decide) hf
abbrev rmX5_reading : Room := { frames := 1, cells := 0, slots := 0, locals := 22 }
theorem hdX5_reading : yX5_reading.cls = RX5 ∧ yX5_reading.cls ≠ "java/lang/invoke/MethodHandle" ∧ yX5_reading.cls ≠ "java/lang/invoke/VarHandle" ∧ (parseMethodDescriptor yX5_reading.desc).map (fun d => d.parameters.length) = some 3 := by decide +kernel
theorem kX5_reading_12 : Cond.fieldLink RX5 12 "PaperLayers" "now" "LPaperLayers$Wall;" ∈ wsX5_reading := List.mem_cons_of_mem _ (List.mem_append_left _ (List.mem_append_left _ (List.mem_append_left _ (List.mem_of_getElem? (i := 0) rfl))))
theorem kX5_reading_24 : Cond.fieldLink RX5 24 "PaperLayers" "readings" "LPaperLayers$Readings;" ∈ wsX5_reading := List.mem_cons_of_mem _ (List.mem_append_left _ (List.mem_append_left _ (List.mem_append_left _ (List.mem_of_getElem? (i := 1) rfl))))
theorem kX5_reading_73 : Cond.fieldLink RX5 73 "PaperLayers$Readings" "count" "I" ∈ wsX5_reading := List.mem_cons_of_mem _ (List.mem_append_left _ (List.mem_append_left _ (List.mem_append_left _ (List.mem_of_getElem? (i := 2) rfl))))
theorem inX5_reading_2 : ∀ w ∈ wsX20, w ∈ wsX5_reading := fun _ h => List.mem_cons_of_mem _ (List.mem_append_left _ (List.mem_append_right _ (h)))
theorem inX5_reading_5 : ∀ w ∈ wsX50, w ∈ wsX5_reading := fun _ h => List.mem_cons_of_mem _ (List.mem_append_left _ (List.mem_append_left _ (List.mem_append_right _ (h))))
set_option maxHeartbeats 4000000 in
set_option maxRecDepth 100000 in
theorem mX5_reading (l : Launch) (G : GT) (hG : GD G) (x1 : Int32) (x2 : Int32) (x3 : Int32) (μ : Mem) (r : Int32) (μ' : Mem) (hf : fX5_reading x1 x2 x3 μ = some (r, μ')) : Ct l yX5_reading wsX5_reading rmX5_reading G [.ref (ga G 0), .int x1, .int x2, .int x3] μ (some (.int r)) μ' := by
  refine Ct.of (cc := cX5_reading) (maxL := 4) (ret := (some .int)) (own := RX5) hG (by decide) rfl rfl (Nat.le_of_ble_eq_true rfl) ?_
  intro p e s m args below meth c ls H locs F hl hP hS
  have hl : lv_has ls 4 [(0, .ref (ga G 0)), (1, .int x1), (2, .int x2), (3, .int x3)] := hl
  unfold fX5_reading at hf
  refine lv_iload_n F.1.1 F.1.2.1 dX5_reading_0 rfl (lv_at hl 1 rfl) ?_
  refine lv_bipush (v := (20 : Int32)) F.1.1 F.1.2.1 dX5_reading_1 (by decide) ?_
  obtain ⟨r_3, μ_1, hc_2, hf⟩ := bnd_some hf
  refine rS1 (R := rmX5_reading) (As := [.int x1, .int (20 : Int32)]) (rest := []) F hP hS hl (mX5_isUpTo l G F.2.2.2.2 x1 (20 : Int32) _ _ _ hc_2) gX5_reading_X5_isUpTo hdX5_isUpTo rfl rfl rfl ⟨Nat.le_of_ble_eq_true rfl, Nat.le_of_ble_eq_true rfl⟩ rfl rfl (Nat.le_of_ble_eq_true rfl) ⟨Nat.le_of_ble_eq_true rfl, Nat.le_of_ble_eq_true rfl⟩ dX5_reading_3 (fun H locs hP hS => ?_)
  refine jz_eq (tgt := 18) F dX5_reading_6 (by decide) hf (fun hf => ?_) (fun hf => ?_)
  · refine lv_bipush (v := (-2 : Int32)) F.1.1 F.1.2.1 dX5_reading_18 (by decide) ?_
    exact retI F hP hS dX5_reading_20 hf
  · refine lv_iload_n F.1.1 F.1.2.1 dX5_reading_9 rfl (lv_at hl 2 rfl) ?_
    refine lv_bipush (v := (9 : Int32)) F.1.1 F.1.2.1 dX5_reading_10 (by decide) ?_
    obtain ⟨r_6, μ_4, hc_5, hf⟩ := bnd_some hf
    refine rS1 (R := rmX5_reading) (As := [.int x2, .int (9 : Int32)]) (rest := []) F hP hS hl (mX5_isUpTo l G F.2.2.2.2 x2 (9 : Int32) _ _ _ hc_5) gX5_reading_X5_isUpTo hdX5_isUpTo rfl rfl rfl ⟨Nat.le_of_ble_eq_true rfl, Nat.le_of_ble_eq_true rfl⟩ rfl rfl (Nat.le_of_ble_eq_true rfl) ⟨Nat.le_of_ble_eq_true rfl, Nat.le_of_ble_eq_true rfl⟩ dX5_reading_12 (fun H locs hP hS => ?_)
    refine jz_ne (tgt := 21) F dX5_reading_15 (by decide) hf (fun hf => ?_) (fun hf => ?_)
    · refine lv_iload_n F.1.1 F.1.2.1 dX5_reading_21 rfl (lv_at hl 3 rfl) ?_
      refine lv_bipush (v := (9 : Int32)) F.1.1 F.1.2.1 dX5_reading_22 (by decide) ?_
      obtain ⟨r_9, μ_7, hc_8, hf⟩ := bnd_some hf
      refine rS1 (R := rmX5_reading) (As := [.int x3, .int (9 : Int32)]) (rest := []) F hP hS hl (mX5_isUpTo l G F.2.2.2.2 x3 (9 : Int32) _ _ _ hc_8) gX5_reading_X5_isUpTo hdX5_isUpTo rfl rfl rfl ⟨Nat.le_of_ble_eq_true rfl, Nat.le_of_ble_eq_true rfl⟩ rfl rfl (Nat.le_of_ble_eq_true rfl) ⟨Nat.le_of_ble_eq_true rfl, Nat.le_of_ble_eq_true rfl⟩ dX5_reading_24 (fun H locs hP hS => ?_)
      refine jz_ne (tgt := 39) F dX5_reading_27 (by decide) hf (fun hf => ?_) (fun hf => ?_)
      · refine lv_aload_n F.1.1 F.1.2.1 dX5_reading_39 rfl (lv_at hl 0 rfl) ?_
        refine gt_5_0 F hP 0 rfl inX5_reading_5 kX5_reading_12 dX5_reading_40 ?_
        obtain ⟨r_12, μ_10, hc_11, hf⟩ := bnd_some hf
        refine rV1 (R := rmX5_reading) (As := []) (rest := []) F hP hS hl (mX4_stands l G F.2.2.2.2 1 rfl _ _ _ hc_11) gX5_reading_X4_stands rfl hdX4_stands rfl rfl rfl ⟨Nat.le_of_ble_eq_true rfl, Nat.le_of_ble_eq_true rfl⟩ (by decide) rfl rfl rfl (Nat.le_of_ble_eq_true rfl) ⟨Nat.le_of_ble_eq_true rfl, Nat.le_of_ble_eq_true rfl⟩ dX5_reading_43 (fun H locs hP hS => ?_)
        refine jz_ne (tgt := 52) F dX5_reading_46 (by decide) hf (fun hf => ?_) (fun hf => ?_)
        · refine lv_aload_n F.1.1 F.1.2.1 dX5_reading_52 rfl (lv_at hl 0 rfl) ?_
          refine gt_5_2 F hP 0 rfl inX5_reading_5 kX5_reading_24 dX5_reading_53 ?_
          refine lv_iload_n F.1.1 F.1.2.1 dX5_reading_56 rfl (lv_at hl 1 rfl) ?_
          refine lv_iload_n F.1.1 F.1.2.1 dX5_reading_57 rfl (lv_at hl 2 rfl) ?_
          refine lv_isub F.1.1 F.1.2.1 dX5_reading_58 ?_
          refine lv_iload_n F.1.1 F.1.2.1 dX5_reading_59 rfl (lv_at hl 3 rfl) ?_
          obtain ⟨r_15, μ_13, hc_14, hf⟩ := bnd_some hf
          refine rV1 (R := rmX5_reading) (As := [.int (x1 - x2), .int x3]) (rest := []) F hP hS hl (mX2_note l G F.2.2.2.2 (x1 - x2) x3 _ _ _ hc_14) gX5_reading_X2_note rfl hdX2_note rfl rfl rfl ⟨Nat.le_of_ble_eq_true rfl, Nat.le_of_ble_eq_true rfl⟩ (by decide) rfl rfl rfl (Nat.le_of_ble_eq_true rfl) ⟨Nat.le_of_ble_eq_true rfl, Nat.le_of_ble_eq_true rfl⟩ dX5_reading_60 (fun H locs hP hS => ?_)
          refine jz_eq (tgt := 78) F dX5_reading_63 (by decide) hf (fun hf => ?_) (fun hf => ?_)
          · refine lv_bipush (v := (-4 : Int32)) F.1.1 F.1.2.1 dX5_reading_78 (by decide) ?_
            exact retI F hP hS dX5_reading_80 hf
          · refine lv_aload_n F.1.1 F.1.2.1 dX5_reading_66 rfl (lv_at hl 0 rfl) ?_
            refine gt_5_2 F hP 0 rfl inX5_reading_5 kX5_reading_24 dX5_reading_67 ?_
            refine gt_2_2 F hP 17 rfl inX5_reading_2 kX5_reading_73 dX5_reading_70 ?_
            refine lv_iconst (v := (1 : Int32)) F.1.1 F.1.2.1 dX5_reading_73 (by decide) ?_
            refine lv_isub F.1.1 F.1.2.1 dX5_reading_74 ?_
            refine lv_goto (tgt := 80) F.1.1 F.1.2.1 dX5_reading_75 (by decide) ?_
            exact retI F hP hS dX5_reading_80 hf
        · refine lv_bipush (v := (-3 : Int32)) F.1.1 F.1.2.1 dX5_reading_49 (by decide) ?_
          exact retI F hP hS dX5_reading_51 hf
      · refine lv_iload_n F.1.1 F.1.2.1 dX5_reading_30 rfl (lv_at hl 3 rfl) ?_
        refine lv_bipush (v := (-9 : Int32)) F.1.1 F.1.2.1 dX5_reading_31 (by decide) ?_
        refine jc_eq (tgt := 39) F dX5_reading_33 (by decide) hf (fun hf => ?_) (fun hf => ?_)
        · refine lv_aload_n F.1.1 F.1.2.1 dX5_reading_39 rfl (lv_at hl 0 rfl) ?_
          refine gt_5_0 F hP 0 rfl inX5_reading_5 kX5_reading_12 dX5_reading_40 ?_
          obtain ⟨r_18, μ_16, hc_17, hf⟩ := bnd_some hf
          refine rV1 (R := rmX5_reading) (As := []) (rest := []) F hP hS hl (mX4_stands l G F.2.2.2.2 1 rfl _ _ _ hc_17) gX5_reading_X4_stands rfl hdX4_stands rfl rfl rfl ⟨Nat.le_of_ble_eq_true rfl, Nat.le_of_ble_eq_true rfl⟩ (by decide) rfl rfl rfl (Nat.le_of_ble_eq_true rfl) ⟨Nat.le_of_ble_eq_true rfl, Nat.le_of_ble_eq_true rfl⟩ dX5_reading_43 (fun H locs hP hS => ?_)
          refine jz_ne (tgt := 52) F dX5_reading_46 (by decide) hf (fun hf => ?_) (fun hf => ?_)
          · refine lv_aload_n F.1.1 F.1.2.1 dX5_reading_52 rfl (lv_at hl 0 rfl) ?_
            refine gt_5_2 F hP 0 rfl inX5_reading_5 kX5_reading_24 dX5_reading_53 ?_
            refine lv_iload_n F.1.1 F.1.2.1 dX5_reading_56 rfl (lv_at hl 1 rfl) ?_
            refine lv_iload_n F.1.1 F.1.2.1 dX5_reading_57 rfl (lv_at hl 2 rfl) ?_
            refine lv_isub F.1.1 F.1.2.1 dX5_reading_58 ?_
            refine lv_iload_n F.1.1 F.1.2.1 dX5_reading_59 rfl (lv_at hl 3 rfl) ?_
            obtain ⟨r_21, μ_19, hc_20, hf⟩ := bnd_some hf
            refine rV1 (R := rmX5_reading) (As := [.int (x1 - x2), .int x3]) (rest := []) F hP hS hl (mX2_note l G F.2.2.2.2 (x1 - x2) x3 _ _ _ hc_20) gX5_reading_X2_note rfl hdX2_note rfl rfl rfl ⟨Nat.le_of_ble_eq_true rfl, Nat.le_of_ble_eq_true rfl⟩ (by decide) rfl rfl rfl (Nat.le_of_ble_eq_true rfl) ⟨Nat.le_of_ble_eq_true rfl, Nat.le_of_ble_eq_true rfl⟩ dX5_reading_60 (fun H locs hP hS => ?_)
            refine jz_eq (tgt := 78) F dX5_reading_63 (by decide) hf (fun hf => ?_) (fun hf => ?_)
            · refine lv_bipush (v := (-4 : Int32)) F.1.1 F.1.2.1 dX5_reading_78 (by decide) ?_
              exact retI F hP hS dX5_reading_80 hf
            · refine lv_aload_n F.1.1 F.1.2.1 dX5_reading_66 rfl (lv_at hl 0 rfl) ?_
              refine gt_5_2 F hP 0 rfl inX5_reading_5 kX5_reading_24 dX5_reading_67 ?_
              refine gt_2_2 F hP 17 rfl inX5_reading_2 kX5_reading_73 dX5_reading_70 ?_
              refine lv_iconst (v := (1 : Int32)) F.1.1 F.1.2.1 dX5_reading_73 (by decide) ?_
              refine lv_isub F.1.1 F.1.2.1 dX5_reading_74 ?_
              refine lv_goto (tgt := 80) F.1.1 F.1.2.1 dX5_reading_75 (by decide) ?_
              exact retI F hP hS dX5_reading_80 hf
          · refine lv_bipush (v := (-3 : Int32)) F.1.1 F.1.2.1 dX5_reading_49 (by decide) ?_
            exact retI F hP hS dX5_reading_51 hf
        · refine lv_bipush (v := (-2 : Int32)) F.1.1 F.1.2.1 dX5_reading_36 (by decide) ?_
          exact retI F hP hS dX5_reading_38 hf
    · refine lv_bipush (v := (-2 : Int32)) F.1.1 F.1.2.1 dX5_reading_18 (by decide) ?_
      exact retI F hP hS dX5_reading_20 hf
abbrev rmX5_back : Room := { frames := 1, cells := 0, slots := 0, locals := 21 }
theorem hdX5_back : yX5_back.cls = RX5 ∧ yX5_back.cls ≠ "java/lang/invoke/MethodHandle" ∧ yX5_back.cls ≠ "java/lang/invoke/VarHandle" ∧ (parseMethodDescriptor yX5_back.desc).map (fun d => d.parameters.length) = some 1 := by decide +kernel
theorem kX5_back_24 : Cond.fieldLink RX5 24 "PaperLayers" "readings" "LPaperLayers$Readings;" ∈ wsX5_back := List.mem_cons_of_mem _ (List.mem_append_left _ (List.mem_append_left _ (List.mem_of_getElem? (i := 0) rfl)))
theorem kX5_back_73 : Cond.fieldLink RX5 73 "PaperLayers$Readings" "count" "I" ∈ wsX5_back := List.mem_cons_of_mem _ (List.mem_append_left _ (List.mem_append_left _ (List.mem_of_getElem? (i := 1) rfl)))
theorem inX5_back_2 : ∀ w ∈ wsX20, w ∈ wsX5_back := fun _ h => List.mem_cons_of_mem _ (List.mem_append_right _ (h))
theorem inX5_back_5 : ∀ w ∈ wsX50, w ∈ wsX5_back := fun _ h => List.mem_cons_of_mem _ (List.mem_append_left _ (List.mem_append_right _ (h)))
set_option maxHeartbeats 4000000 in
set_option maxRecDepth 100000 in
theorem mX5_back (l : Launch) (G : GT) (hG : GD G) (x1 : Int32) (μ : Mem) (r : Int32) (μ' : Mem) (hf : fX5_back x1 μ = some (r, μ')) : Ct l yX5_back wsX5_back rmX5_back G [.ref (ga G 0), .int x1] μ (some (.int r)) μ' := by
  refine Ct.of (cc := cX5_back) (maxL := 2) (ret := (some .int)) (own := RX5) hG (by decide) rfl rfl (Nat.le_of_ble_eq_true rfl) ?_
  intro p e s m args below meth c ls H locs F hl hP hS
  have hl : lv_has ls 2 [(0, .ref (ga G 0)), (1, .int x1)] := hl
  unfold fX5_back at hf
  refine lv_iload_n F.1.1 F.1.2.1 dX5_back_0 rfl (lv_at hl 1 rfl) ?_
  refine lv_aload_n F.1.1 F.1.2.1 dX5_back_1 rfl (lv_at hl 0 rfl) ?_
  refine gt_5_2 F hP 0 rfl inX5_back_5 kX5_back_24 dX5_back_2 ?_
  refine gt_2_2 F hP 17 rfl inX5_back_2 kX5_back_73 dX5_back_5 ?_
  obtain ⟨r_3, μ_1, hc_2, hf⟩ := bnd_some hf
  refine rS1 (R := rmX5_back) (As := [.int x1, .int (μ 17 2)]) (rest := []) F hP hS hl (mX5_isUpTo l G F.2.2.2.2 x1 (μ 17 2) _ _ _ hc_2) gX5_back_X5_isUpTo hdX5_isUpTo rfl rfl rfl ⟨Nat.le_of_ble_eq_true rfl, Nat.le_of_ble_eq_true rfl⟩ rfl rfl (Nat.le_of_ble_eq_true rfl) ⟨Nat.le_of_ble_eq_true rfl, Nat.le_of_ble_eq_true rfl⟩ dX5_back_8 (fun H locs hP hS => ?_)
  refine jz_ne (tgt := 17) F dX5_back_11 (by decide) hf (fun hf => ?_) (fun hf => ?_)
  · refine lv_aload_n F.1.1 F.1.2.1 dX5_back_17 rfl (lv_at hl 0 rfl) ?_
    refine gt_5_2 F hP 0 rfl inX5_back_5 kX5_back_24 dX5_back_18 ?_
    refine lv_dup F.1.1 F.1.2.1 dX5_back_21 rfl ?_
    refine gt_2_2 F hP 17 rfl inX5_back_2 kX5_back_73 dX5_back_22 ?_
    refine lv_iload_n F.1.1 F.1.2.1 dX5_back_25 rfl (lv_at hl 1 rfl) ?_
    refine lv_isub F.1.1 F.1.2.1 dX5_back_26 ?_
    refine pt_2_2 F hP hS 17 rfl inX5_back_2 kX5_back_73 dX5_back_27 hf (fun μ_4 H locs hP hS hf => ?_)
    refine lv_aload_n F.1.1 F.1.2.1 dX5_back_30 rfl (lv_at hl 0 rfl) ?_
    refine gt_5_2 F hP 0 rfl inX5_back_5 kX5_back_24 dX5_back_31 ?_
    refine gt_2_2 F hP 17 rfl inX5_back_2 kX5_back_73 dX5_back_34 ?_
    exact retI F hP hS dX5_back_37 hf
  · refine lv_bipush (v := (-2 : Int32)) F.1.1 F.1.2.1 dX5_back_14 (by decide) ?_
    exact retI F hP hS dX5_back_16 hf
abbrev rmX1_begin : Room := { frames := 1, cells := 0, slots := 0, locals := 21 }
theorem hdX1_begin : yX1_begin.cls = RX1 ∧ yX1_begin.cls ≠ "java/lang/invoke/MethodHandle" ∧ yX1_begin.cls ≠ "java/lang/invoke/VarHandle" ∧ (parseMethodDescriptor yX1_begin.desc).map (fun d => d.parameters.length) = some 1 := by decide +kernel
theorem kX1_begin_15 : Cond.methodLink RX1 15 Lib.Math.max.name ∈ wsX1_begin := List.mem_cons_of_mem _ (List.mem_append_left _ (List.mem_of_getElem? (i := 0) rfl))
theorem kX1_begin_21 : Cond.methodLink RX1 21 Lib.Math.min.name ∈ wsX1_begin := List.mem_cons_of_mem _ (List.mem_append_left _ (List.mem_of_getElem? (i := 4) rfl))
theorem kX1_begin_24 : Cond.fieldLink RX1 24 "PaperLayers$Order" "count" "I" ∈ wsX1_begin := List.mem_cons_of_mem _ (List.mem_append_left _ (List.mem_of_getElem? (i := 7) rfl))
theorem kX1_begin_9 : Cond.fieldLink RX1 9 "PaperLayers$Order" "row" "[I" ∈ wsX1_begin := List.mem_cons_of_mem _ (List.mem_append_left _ (List.mem_of_getElem? (i := 8) rfl))
theorem kX1_begin_cdmax : Cond.code Lib.Math.max.name Lib.Math.max.code 2 (some .int) ∈ wsX1_begin := List.mem_cons_of_mem _ (List.mem_append_left _ (List.mem_of_getElem? (i := 3) rfl))
theorem kX1_begin_cdmin : Cond.code Lib.Math.min.name Lib.Math.min.code 2 (some .int) ∈ wsX1_begin := List.mem_cons_of_mem _ (List.mem_append_left _ (List.mem_of_getElem? (i := 6) rfl))
theorem kX1_begin_inM : Cond.initialized "java/lang/Math" ∈ wsX1_begin := List.mem_cons_of_mem _ (List.mem_append_left _ (List.mem_of_getElem? (i := 2) rfl))
theorem kX1_begin_stmax : Cond.static Lib.Math.max.name ∈ wsX1_begin := List.mem_cons_of_mem _ (List.mem_append_left _ (List.mem_of_getElem? (i := 1) rfl))
theorem kX1_begin_stmin : Cond.static Lib.Math.min.name ∈ wsX1_begin := List.mem_cons_of_mem _ (List.mem_append_left _ (List.mem_of_getElem? (i := 5) rfl))
theorem inX1_begin_1 : ∀ w ∈ wsX10, w ∈ wsX1_begin := fun _ h => List.mem_cons_of_mem _ (List.mem_append_right _ (h))
set_option maxHeartbeats 4000000 in
set_option maxRecDepth 100000 in
theorem lX1_begin_L16 (l : Launch) (G : GT) {p : Program} {e : Env} {s : State} {m : MethodId} {args : Array Value} {below : List Frame} {meth : Method} {c : Code} (F : Fx p s m args meth c cX1_begin 3 wsX1_begin RX1 none G) (r : Unit) (μ' : Mem) : ∀ (fuel : Nat), ∀ (x2 : Int32) (μ : Mem) (H : Heap) (locs : List Loc) (ls : Array Slot), Hh G μ H → va_S (gA G) s.heap H locs → lv_has ls 3 [(0, .ref (ga G 20)), (2, .int x2)] → fX1_begin_L16 fuel x2 μ = some (r, μ') → W p l e rmX1_begin s m args below meth c H locs 0 0 (MQ below (Qg G none μ') args s 0 0 (gA G)) (F0 m 16 ls []) := by
  intro fuel
  induction fuel with
  | zero =>
    intro x2 μ H locs ls hP hS hl hf
    exact absurd hf (by intro h; cases h)
  | succ fuel ih16 =>
    intro x2 μ H locs ls hP hS hl hf
    have hf : sX1_begin_L16 (fX1_begin_L16 fuel) x2 μ = some (r, μ') := hf
    unfold sX1_begin_L16 at hf
    refine lv_iload_n F.1.1 F.1.2.1 dX1_begin_16 rfl (lv_at hl 1 rfl) ?_
    refine lv_aload_n F.1.1 F.1.2.1 dX1_begin_17 rfl (lv_at hl 0 rfl) ?_
    refine gt_1_1 F hP 20 rfl inX1_begin_1 kX1_begin_24 dX1_begin_18 ?_
    refine jc_ge (tgt := 37) F dX1_begin_21 (by decide) hf (fun hf => ?_) (fun hf => ?_)
    · exact retV F hP hS dX1_begin_37 hf
    · refine lv_aload_n F.1.1 F.1.2.1 dX1_begin_24 rfl (lv_at hl 0 rfl) ?_
      refine gt_1_0 F hP 20 rfl inX1_begin_1 kX1_begin_9 dX1_begin_25 ?_
      refine lv_iload_n F.1.1 F.1.2.1 dX1_begin_28 rfl (lv_at hl 1 rfl) ?_
      refine lv_iload_n F.1.1 F.1.2.1 dX1_begin_29 rfl (lv_at hl 1 rfl) ?_
      refine r_ias F hP hS 21 rfl rfl dX1_begin_30 hf (fun μ_2 H locs hP hS hf => ?_)
      refine top_n hf (fun y_3 ey_3 hf => ?_)
      refine lv_iinc (v := y_3) (lv' := [(2, .int y_3), (0, .ref (ga G 20))]) F.1.1 F.1.2.1 dX1_begin_31 hl (k := 1) rfl ey_3 (by decide) rfl (fun ls hl => ?_)
      refine lv_goto (tgt := 16) F.1.1 F.1.2.1 dX1_begin_34 (by decide) ?_
      exact ih16 y_3 μ_2 H locs ls hP hS (lv_sub hl [1, 0] rfl) hf
set_option maxHeartbeats 4000000 in
set_option maxRecDepth 100000 in
theorem mX1_begin (l : Launch) (G : GT) (hG : GD G) (x1 : Int32) (μ : Mem) (r : Unit) (μ' : Mem) (hf : fX1_begin x1 μ = some (r, μ')) : Ct l yX1_begin wsX1_begin rmX1_begin G [.ref (ga G 20), .int x1] μ none μ' := by
  refine Ct.of (cc := cX1_begin) (maxL := 3) (ret := none) (own := RX1) hG (by decide) rfl rfl (Nat.le_of_ble_eq_true rfl) ?_
  intro p e s m args below meth c ls H locs F hl hP hS
  have hl : lv_has ls 3 [(0, .ref (ga G 20)), (1, .int x1)] := hl
  unfold fX1_begin at hf
  refine lv_aload_n F.1.1 F.1.2.1 dX1_begin_0 rfl (lv_at hl 0 rfl) ?_
  refine lv_iload_n F.1.1 F.1.2.1 dX1_begin_1 rfl (lv_at hl 1 rfl) ?_
  refine lv_iconst (v := (0 : Int32)) F.1.1 F.1.2.1 dX1_begin_2 (by decide) ?_
  refine va_mmax (R := rmX1_begin) F.1.1 F.1.2.1 (F.1.2.2.1.trans hl.1.symm) F.1.2.2.2.1 (F.1.2.2.2.2 _ kX1_begin_15) (F.1.2.2.2.2 _ kX1_begin_stmax) (F.1.2.2.2.2 _ kX1_begin_inM) (F.1.2.2.2.2 _ kX1_begin_cdmax) (Nat.le_of_ble_eq_true rfl) (Nat.le_of_ble_eq_true rfl) (Nat.le_of_ble_eq_true rfl) (Nat.le_of_ble_eq_true rfl) dX1_begin_3 ?_
  refine lv_bipush (v := (6 : Int32)) F.1.1 F.1.2.1 dX1_begin_6 (by decide) ?_
  refine va_mmin (R := rmX1_begin) F.1.1 F.1.2.1 (F.1.2.2.1.trans hl.1.symm) F.1.2.2.2.1 (F.1.2.2.2.2 _ kX1_begin_21) (F.1.2.2.2.2 _ kX1_begin_stmin) (F.1.2.2.2.2 _ kX1_begin_inM) (F.1.2.2.2.2 _ kX1_begin_cdmin) (Nat.le_of_ble_eq_true rfl) (Nat.le_of_ble_eq_true rfl) (Nat.le_of_ble_eq_true rfl) (Nat.le_of_ble_eq_true rfl) dX1_begin_8 ?_
  refine pt_1_1 F hP hS 20 rfl inX1_begin_1 kX1_begin_24 dX1_begin_11 hf (fun μ_1 H locs hP hS hf => ?_)
  refine lv_iconst (v := (0 : Int32)) F.1.1 F.1.2.1 dX1_begin_14 (by decide) ?_
  refine lv_istore_n (lv' := [(2, .int (0 : Int32)), (0, .ref (ga G 20)), (1, .int x1)]) F.1.1 F.1.2.1 dX1_begin_15 rfl hl (by decide) rfl (fun ls hl => ?_)
  exact lX1_begin_L16 l G F _ _ FU (0 : Int32) μ_1 H locs ls hP hS (lv_sub hl [1, 0] rfl) hf
abbrev rmX1_layerIn : Room := { frames := 0, cells := 0, slots := 0, locals := 0 }
theorem hdX1_layerIn : yX1_layerIn.cls = RX1 ∧ yX1_layerIn.cls ≠ "java/lang/invoke/MethodHandle" ∧ yX1_layerIn.cls ≠ "java/lang/invoke/VarHandle" ∧ (parseMethodDescriptor yX1_layerIn.desc).map (fun d => d.parameters.length) = some 1 := by decide +kernel
theorem kX1_layerIn_24 : Cond.fieldLink RX1 24 "PaperLayers$Order" "count" "I" ∈ wsX1_layerIn := List.mem_cons_of_mem _ (List.mem_append_left _ (List.mem_of_getElem? (i := 0) rfl))
theorem kX1_layerIn_9 : Cond.fieldLink RX1 9 "PaperLayers$Order" "row" "[I" ∈ wsX1_layerIn := List.mem_cons_of_mem _ (List.mem_append_left _ (List.mem_of_getElem? (i := 1) rfl))
theorem inX1_layerIn_1 : ∀ w ∈ wsX10, w ∈ wsX1_layerIn := fun _ h => List.mem_cons_of_mem _ (List.mem_append_right _ (h))
set_option maxHeartbeats 4000000 in
set_option maxRecDepth 100000 in
theorem mX1_layerIn (l : Launch) (G : GT) (hG : GD G) (x1 : Int32) (μ : Mem) (r : Int32) (μ' : Mem) (hf : fX1_layerIn x1 μ = some (r, μ')) : Ct l yX1_layerIn wsX1_layerIn rmX1_layerIn G [.ref (ga G 20), .int x1] μ (some (.int r)) μ' := by
  refine Ct.of (cc := cX1_layerIn) (maxL := 2) (ret := (some .int)) (own := RX1) hG (by decide) rfl rfl (Nat.le_of_ble_eq_true rfl) ?_
  intro p e s m args below meth c ls H locs F hl hP hS
  have hl : lv_has ls 2 [(0, .ref (ga G 20)), (1, .int x1)] := hl
  unfold fX1_layerIn at hf
  refine lv_iload_n F.1.1 F.1.2.1 dX1_layerIn_0 rfl (lv_at hl 1 rfl) ?_
  refine jz_lt (tgt := 21) F dX1_layerIn_1 (by decide) hf (fun hf => ?_) (fun hf => ?_)
  · refine lv_bipush (v := (-9 : Int32)) F.1.1 F.1.2.1 dX1_layerIn_21 (by decide) ?_
    exact retI F hP hS dX1_layerIn_23 hf
  · refine lv_iload_n F.1.1 F.1.2.1 dX1_layerIn_4 rfl (lv_at hl 1 rfl) ?_
    refine lv_aload_n F.1.1 F.1.2.1 dX1_layerIn_5 rfl (lv_at hl 0 rfl) ?_
    refine gt_1_1 F hP 20 rfl inX1_layerIn_1 kX1_layerIn_24 dX1_layerIn_6 ?_
    refine jc_ge (tgt := 21) F dX1_layerIn_9 (by decide) hf (fun hf => ?_) (fun hf => ?_)
    · refine lv_bipush (v := (-9 : Int32)) F.1.1 F.1.2.1 dX1_layerIn_21 (by decide) ?_
      exact retI F hP hS dX1_layerIn_23 hf
    · refine lv_aload_n F.1.1 F.1.2.1 dX1_layerIn_12 rfl (lv_at hl 0 rfl) ?_
      refine gt_1_0 F hP 20 rfl inX1_layerIn_1 kX1_layerIn_9 dX1_layerIn_13 ?_
      refine lv_iload_n F.1.1 F.1.2.1 dX1_layerIn_16 rfl (lv_at hl 1 rfl) ?_
      refine r_ial F hP 21 rfl rfl dX1_layerIn_17 hf (fun hf => ?_)
      refine lv_goto (tgt := 23) F.1.1 F.1.2.1 dX1_layerIn_18 (by decide) ?_
      exact retI F hP hS dX1_layerIn_23 hf
abbrev rmX4_becomeOrdered : Room := { frames := 3, cells := 0, slots := 0, locals := 67 }
theorem hdX4_becomeOrdered : yX4_becomeOrdered.cls = RX4 ∧ yX4_becomeOrdered.cls ≠ "java/lang/invoke/MethodHandle" ∧ yX4_becomeOrdered.cls ≠ "java/lang/invoke/VarHandle" ∧ (parseMethodDescriptor yX4_becomeOrdered.desc).map (fun d => d.parameters.length) = some 2 := by decide +kernel
theorem kX4_becomeOrdered_18 : Cond.fieldLink RX4 18 "PaperLayers$Wall" "count" "I" ∈ wsX4_becomeOrdered := List.mem_cons_of_mem _ (List.mem_append_left _ (List.mem_append_left _ (List.mem_append_left _ (List.mem_append_left _ (List.mem_of_getElem? (i := 2) rfl)))))
theorem kX4_becomeOrdered_22 : Cond.fieldLink RX4 22 "PaperLayers$Wall" "warm" "I" ∈ wsX4_becomeOrdered := List.mem_cons_of_mem _ (List.mem_append_left _ (List.mem_append_left _ (List.mem_append_left _ (List.mem_append_left _ (List.mem_of_getElem? (i := 0) rfl)))))
theorem kX4_becomeOrdered_25 : Cond.fieldLink RX4 25 "PaperLayers$Wall" "damp" "I" ∈ wsX4_becomeOrdered := List.mem_cons_of_mem _ (List.mem_append_left _ (List.mem_append_left _ (List.mem_append_left _ (List.mem_append_left _ (List.mem_of_getElem? (i := 1) rfl)))))
theorem inX4_becomeOrdered_4 : ∀ w ∈ wsX40, w ∈ wsX4_becomeOrdered := fun _ h => List.mem_cons_of_mem _ (List.mem_append_left _ (List.mem_append_left _ (List.mem_append_right _ (h))))
set_option maxHeartbeats 4000000 in
set_option maxRecDepth 100000 in
theorem lX4_becomeOrdered_L14 (l : Launch) (G : GT) {p : Program} {e : Env} {s : State} {m : MethodId} {args : Array Value} {below : List Frame} {meth : Method} {c : Code} (F : Fx p s m args meth c cX4_becomeOrdered 4 wsX4_becomeOrdered RX4 none G) (w : Nat) (sw : sh w = 4) (j1 : Nat) (sj1 : sh j1 = 4) (r : Unit) (μ' : Mem) : ∀ (fuel : Nat), ∀ (x3 : Int32) (μ : Mem) (H : Heap) (locs : List Loc) (ls : Array Slot), Hh G μ H → va_S (gA G) s.heap H locs → lv_has ls 4 [(0, .ref (ga G w)), (1, .ref (ga G j1)), (2, .ref (ga G 20)), (3, .int x3)] → fX4_becomeOrdered_L14 w j1 fuel x3 μ = some (r, μ') → W p l e rmX4_becomeOrdered s m args below meth c H locs 0 0 (MQ below (Qg G none μ') args s 0 0 (gA G)) (F0 m 14 ls []) := by
  intro fuel
  induction fuel with
  | zero =>
    intro x3 μ H locs ls hP hS hl hf
    exact absurd hf (by intro h; cases h)
  | succ fuel ih14 =>
    intro x3 μ H locs ls hP hS hl hf
    have hf : sX4_becomeOrdered_L14 (fX4_becomeOrdered_L14 w j1 fuel) w j1 x3 μ = some (r, μ') := hf
    unfold sX4_becomeOrdered_L14 at hf
    refine lv_iload_n F.1.1 F.1.2.1 dX4_becomeOrdered_14 rfl (lv_at hl 3 rfl) ?_
    refine lv_aload_n F.1.1 F.1.2.1 dX4_becomeOrdered_15 rfl (lv_at hl 1 rfl) ?_
    refine gt_4_1 F hP j1 sj1 inX4_becomeOrdered_4 kX4_becomeOrdered_18 dX4_becomeOrdered_16 ?_
    refine jc_ge (tgt := 41) F dX4_becomeOrdered_19 (by decide) hf (fun hf => ?_) (fun hf => ?_)
    · exact retV F hP hS dX4_becomeOrdered_41 hf
    · refine lv_aload_n F.1.1 F.1.2.1 dX4_becomeOrdered_22 rfl (lv_at hl 0 rfl) ?_
      refine lv_aload_n F.1.1 F.1.2.1 dX4_becomeOrdered_23 rfl (lv_at hl 1 rfl) ?_
      refine lv_aload_n F.1.1 F.1.2.1 dX4_becomeOrdered_24 rfl (lv_at hl 2 rfl) ?_
      refine lv_iload_n F.1.1 F.1.2.1 dX4_becomeOrdered_25 rfl (lv_at hl 3 rfl) ?_
      obtain ⟨r_6, μ_4, hc_5, hf⟩ := bnd_some hf
      refine rV1 (R := rmX4_becomeOrdered) (As := [.int x3]) (rest := [.ref (ga G j1), .ref (ga G w)]) F hP hS hl (mX1_layerIn l G F.2.2.2.2 x3 _ _ _ hc_5) gX4_becomeOrdered_X1_layerIn rfl hdX1_layerIn rfl rfl rfl ⟨Nat.le_of_ble_eq_true rfl, Nat.le_of_ble_eq_true rfl⟩ (by decide) rfl rfl rfl (Nat.le_of_ble_eq_true rfl) ⟨Nat.le_of_ble_eq_true rfl, Nat.le_of_ble_eq_true rfl⟩ dX4_becomeOrdered_26 (fun H locs hP hS => ?_)
      obtain ⟨r_9, μ_7, hc_8, hf⟩ := bnd_some hf
      refine rV1 (R := rmX4_becomeOrdered) (As := [.int r_6]) (rest := [.ref (ga G w)]) F hP hS hl (mX4_layerAt l G F.2.2.2.2 j1 sj1 r_6 _ _ _ hc_8) gX4_becomeOrdered_X4_layerAt sj1 hdX4_layerAt rfl rfl rfl ⟨Nat.le_of_ble_eq_true rfl, Nat.le_of_ble_eq_true rfl⟩ (by decide) rfl rfl rfl (Nat.le_of_ble_eq_true rfl) ⟨Nat.le_of_ble_eq_true rfl, Nat.le_of_ble_eq_true rfl⟩ dX4_becomeOrdered_29 (fun H locs hP hS => ?_)
      refine top_o hf (fun hf => ?_) (fun i_10 ho_11 hf => ?_)
      · obtain ⟨u_15, μ_13, hc_14, hf⟩ := bnd_some hf
        refine rVv (R := rmX4_becomeOrdered) (As := [.null]) (rest := []) F hP hS hl (mX4_addLike_n l G F.2.2.2.2 w sw _ _ _ hc_14) gX4_becomeOrdered_X4_addLike sw hdX4_addLike rfl rfl rfl ⟨Nat.le_of_ble_eq_true rfl, Nat.le_of_ble_eq_true rfl⟩ (by decide) rfl rfl rfl (Nat.le_of_ble_eq_true rfl) ⟨Nat.le_of_ble_eq_true rfl, Nat.le_of_ble_eq_true rfl⟩ dX4_becomeOrdered_32 (fun H locs hP hS => ?_)
        refine top_n hf (fun y_16 ey_16 hf => ?_)
        refine lv_iinc (v := y_16) (lv' := [(3, .int y_16), (0, .ref (ga G w)), (1, .ref (ga G j1)), (2, .ref (ga G 20))]) F.1.1 F.1.2.1 dX4_becomeOrdered_35 hl (k := 3) rfl ey_16 (by decide) rfl (fun ls hl => ?_)
        refine lv_goto (tgt := 14) F.1.1 F.1.2.1 dX4_becomeOrdered_38 (by decide) ?_
        exact ih14 y_16 μ_13 H locs ls hP hS (lv_sub hl [1, 2, 3, 0] rfl) hf
      · have s_12 := shX4_layerAt_r sj1 (ho_11 ▸ hc_8)
        obtain ⟨u_19, μ_17, hc_18, hf⟩ := bnd_some hf
        refine rVv (R := rmX4_becomeOrdered) (As := [.ref (ga G i_10)]) (rest := []) F hP hS hl (mX4_addLike l G F.2.2.2.2 w sw i_10 s_12 _ _ _ hc_18) gX4_becomeOrdered_X4_addLike sw hdX4_addLike rfl rfl rfl ⟨Nat.le_of_ble_eq_true rfl, Nat.le_of_ble_eq_true rfl⟩ (by decide) rfl rfl rfl (Nat.le_of_ble_eq_true rfl) ⟨Nat.le_of_ble_eq_true rfl, Nat.le_of_ble_eq_true rfl⟩ dX4_becomeOrdered_32 (fun H locs hP hS => ?_)
        refine top_n hf (fun y_20 ey_20 hf => ?_)
        refine lv_iinc (v := y_20) (lv' := [(3, .int y_20), (0, .ref (ga G w)), (1, .ref (ga G j1)), (2, .ref (ga G 20))]) F.1.1 F.1.2.1 dX4_becomeOrdered_35 hl (k := 3) rfl ey_20 (by decide) rfl (fun ls hl => ?_)
        refine lv_goto (tgt := 14) F.1.1 F.1.2.1 dX4_becomeOrdered_38 (by decide) ?_
        exact ih14 y_20 μ_17 H locs ls hP hS (lv_sub hl [1, 2, 3, 0] rfl) hf
set_option maxHeartbeats 4000000 in
set_option maxRecDepth 100000 in
theorem mX4_becomeOrdered (l : Launch) (G : GT) (hG : GD G) (w : Nat) (sw : sh w = 4) (j1 : Nat) (sj1 : sh j1 = 4) (μ : Mem) (r : Unit) (μ' : Mem) (hf : fX4_becomeOrdered w j1 μ = some (r, μ')) : Ct l yX4_becomeOrdered wsX4_becomeOrdered rmX4_becomeOrdered G [.ref (ga G w), .ref (ga G j1), .ref (ga G 20)] μ none μ' := by
  refine Ct.of (cc := cX4_becomeOrdered) (maxL := 4) (ret := none) (own := RX4) hG (by decide) rfl rfl (Nat.le_of_ble_eq_true rfl) ?_
  intro p e s m args below meth c ls H locs F hl hP hS
  have hl : lv_has ls 4 [(0, .ref (ga G w)), (1, .ref (ga G j1)), (2, .ref (ga G 20))] := hl
  unfold fX4_becomeOrdered at hf
  refine lv_aload_n F.1.1 F.1.2.1 dX4_becomeOrdered_0 rfl (lv_at hl 0 rfl) ?_
  refine lv_aload_n F.1.1 F.1.2.1 dX4_becomeOrdered_1 rfl (lv_at hl 1 rfl) ?_
  refine gt_4_2 F hP j1 sj1 inX4_becomeOrdered_4 kX4_becomeOrdered_22 dX4_becomeOrdered_2 ?_
  refine lv_aload_n F.1.1 F.1.2.1 dX4_becomeOrdered_5 rfl (lv_at hl 1 rfl) ?_
  refine gt_4_3 F hP j1 sj1 inX4_becomeOrdered_4 kX4_becomeOrdered_25 dX4_becomeOrdered_6 ?_
  obtain ⟨u_3, μ_1, hc_2, hf⟩ := bnd_some hf
  refine rVv (R := rmX4_becomeOrdered) (As := [.int (μ j1 2), .int (μ j1 3)]) (rest := []) F hP hS hl (mX4_begin l G F.2.2.2.2 w sw (μ j1 2) (μ j1 3) _ _ _ hc_2) gX4_becomeOrdered_X4_begin sw hdX4_begin rfl rfl rfl ⟨Nat.le_of_ble_eq_true rfl, Nat.le_of_ble_eq_true rfl⟩ (by decide) rfl rfl rfl (Nat.le_of_ble_eq_true rfl) ⟨Nat.le_of_ble_eq_true rfl, Nat.le_of_ble_eq_true rfl⟩ dX4_becomeOrdered_9 (fun H locs hP hS => ?_)
  refine lv_iconst (v := (0 : Int32)) F.1.1 F.1.2.1 dX4_becomeOrdered_12 (by decide) ?_
  refine lv_istore_n (lv' := [(3, .int (0 : Int32)), (0, .ref (ga G w)), (1, .ref (ga G j1)), (2, .ref (ga G 20))]) F.1.1 F.1.2.1 dX4_becomeOrdered_13 rfl hl (by decide) rfl (fun ls hl => ?_)
  exact lX4_becomeOrdered_L14 l G F w sw j1 sj1 _ _ FU (0 : Int32) μ_1 H locs ls hP hS (lv_sub hl [1, 2, 3, 0] rfl) hf
abbrev rmX2_agreeWith : Room := { frames := 3, cells := 0, slots := 0, locals := 70 }
theorem hdX2_agreeWith : yX2_agreeWith.cls = RX2 ∧ yX2_agreeWith.cls ≠ "java/lang/invoke/MethodHandle" ∧ yX2_agreeWith.cls ≠ "java/lang/invoke/VarHandle" ∧ (parseMethodDescriptor yX2_agreeWith.desc).map (fun d => d.parameters.length) = some 1 := by decide +kernel
theorem kX2_agreeWith_15 : Cond.fieldLink RX2 15 "PaperLayers$Readings" "counsels" "[I" ∈ wsX2_agreeWith := List.mem_cons_of_mem _ (List.mem_append_left _ (List.mem_append_left _ (List.mem_append_left _ (List.mem_append_left _ (List.mem_of_getElem? (i := 2) rfl)))))
theorem kX2_agreeWith_18 : Cond.fieldLink RX2 18 "PaperLayers$Readings" "count" "I" ∈ wsX2_agreeWith := List.mem_cons_of_mem _ (List.mem_append_left _ (List.mem_append_left _ (List.mem_append_left _ (List.mem_append_left _ (List.mem_of_getElem? (i := 0) rfl)))))
theorem kX2_agreeWith_9 : Cond.fieldLink RX2 9 "PaperLayers$Readings" "warmths" "[I" ∈ wsX2_agreeWith := List.mem_cons_of_mem _ (List.mem_append_left _ (List.mem_append_left _ (List.mem_append_left _ (List.mem_append_left _ (List.mem_of_getElem? (i := 1) rfl)))))
theorem inX2_agreeWith_2 : ∀ w ∈ wsX20, w ∈ wsX2_agreeWith := fun _ h => List.mem_cons_of_mem _ (List.mem_append_left _ (List.mem_append_left _ (List.mem_append_right _ (h))))
set_option maxHeartbeats 4000000 in
set_option maxRecDepth 100000 in
theorem lX2_agreeWith_L2 (l : Launch) (G : GT) {p : Program} {e : Env} {s : State} {m : MethodId} {args : Array Value} {below : List Frame} {meth : Method} {c : Code} (F : Fx p s m args meth c cX2_agreeWith 3 wsX2_agreeWith RX2 (some .boolean) G) (j1 : Nat) (sj1 : sh j1 = 4) (r : Int32) (μ' : Mem) : ∀ (fuel : Nat), ∀ (x2 : Int32) (μ : Mem) (H : Heap) (locs : List Loc) (ls : Array Slot), Hh G μ H → va_S (gA G) s.heap H locs → lv_has ls 3 [(0, .ref (ga G 17)), (1, .ref (ga G j1)), (2, .int x2)] → fX2_agreeWith_L2 j1 fuel x2 μ = some (r, μ') → W p l e rmX2_agreeWith s m args below meth c H locs 0 0 (MQ below (Qg G (some (.int r)) μ') args s 0 0 (gA G)) (F0 m 2 ls []) := by
  intro fuel
  induction fuel with
  | zero =>
    intro x2 μ H locs ls hP hS hl hf
    exact absurd hf (by intro h; cases h)
  | succ fuel ih2 =>
    intro x2 μ H locs ls hP hS hl hf
    have hf : sX2_agreeWith_L2 (fX2_agreeWith_L2 j1 fuel) j1 x2 μ = some (r, μ') := hf
    unfold sX2_agreeWith_L2 at hf
    refine lv_iload_n F.1.1 F.1.2.1 dX2_agreeWith_2 rfl (lv_at hl 2 rfl) ?_
    refine lv_aload_n F.1.1 F.1.2.1 dX2_agreeWith_3 rfl (lv_at hl 0 rfl) ?_
    refine gt_2_2 F hP 17 rfl inX2_agreeWith_2 kX2_agreeWith_18 dX2_agreeWith_4 ?_
    refine jc_ge (tgt := 37) F dX2_agreeWith_7 (by decide) hf (fun hf => ?_) (fun hf => ?_)
    · refine lv_iconst (v := (1 : Int32)) F.1.1 F.1.2.1 dX2_agreeWith_37 (by decide) ?_
      exact retC F hP hS dX2_agreeWith_38 (by decide) hf
    · refine lv_aload_n F.1.1 F.1.2.1 dX2_agreeWith_10 rfl (lv_at hl 1 rfl) ?_
      refine lv_aload_n F.1.1 F.1.2.1 dX2_agreeWith_11 rfl (lv_at hl 0 rfl) ?_
      refine gt_2_0 F hP 17 rfl inX2_agreeWith_2 kX2_agreeWith_9 dX2_agreeWith_12 ?_
      refine lv_iload_n F.1.1 F.1.2.1 dX2_agreeWith_15 rfl (lv_at hl 2 rfl) ?_
      refine r_ial F hP 18 rfl rfl dX2_agreeWith_16 hf (fun hf => ?_)
      obtain ⟨r_3, μ_1, hc_2, hf⟩ := bnd_some hf
      refine rV1 (R := rmX2_agreeWith) (As := [.int (μ 18 (x2).toNatClampNeg)]) (rest := []) F hP hS hl (mX4_counselBy l G F.2.2.2.2 j1 sj1 (μ 18 (x2).toNatClampNeg) _ _ _ hc_2) gX2_agreeWith_X4_counselBy sj1 hdX4_counselBy rfl rfl rfl ⟨Nat.le_of_ble_eq_true rfl, Nat.le_of_ble_eq_true rfl⟩ (by decide) rfl rfl rfl (Nat.le_of_ble_eq_true rfl) ⟨Nat.le_of_ble_eq_true rfl, Nat.le_of_ble_eq_true rfl⟩ dX2_agreeWith_17 (fun H locs hP hS => ?_)
      refine lv_aload_n F.1.1 F.1.2.1 dX2_agreeWith_20 rfl (lv_at hl 0 rfl) ?_
      refine gt_2_1 F hP 17 rfl inX2_agreeWith_2 kX2_agreeWith_15 dX2_agreeWith_21 ?_
      refine lv_iload_n F.1.1 F.1.2.1 dX2_agreeWith_24 rfl (lv_at hl 2 rfl) ?_
      refine r_ial F hP 19 rfl rfl dX2_agreeWith_25 hf (fun hf => ?_)
      refine jc_eq (tgt := 31) F dX2_agreeWith_26 (by decide) hf (fun hf => ?_) (fun hf => ?_)
      · refine top_n hf (fun y_4 ey_4 hf => ?_)
        refine lv_iinc (v := y_4) (lv' := [(2, .int y_4), (0, .ref (ga G 17)), (1, .ref (ga G j1))]) F.1.1 F.1.2.1 dX2_agreeWith_31 hl (k := 2) rfl ey_4 (by decide) rfl (fun ls hl => ?_)
        refine lv_goto (tgt := 2) F.1.1 F.1.2.1 dX2_agreeWith_34 (by decide) ?_
        exact ih2 y_4 μ_1 H locs ls hP hS (lv_sub hl [1, 2, 0] rfl) hf
      · refine lv_iconst (v := (0 : Int32)) F.1.1 F.1.2.1 dX2_agreeWith_29 (by decide) ?_
        exact retC F hP hS dX2_agreeWith_30 (by decide) hf
set_option maxHeartbeats 4000000 in
set_option maxRecDepth 100000 in
theorem mX2_agreeWith (l : Launch) (G : GT) (hG : GD G) (j1 : Nat) (sj1 : sh j1 = 4) (μ : Mem) (r : Int32) (μ' : Mem) (hf : fX2_agreeWith j1 μ = some (r, μ')) : Ct l yX2_agreeWith wsX2_agreeWith rmX2_agreeWith G [.ref (ga G 17), .ref (ga G j1)] μ (some (.int r)) μ' := by
  refine Ct.of (cc := cX2_agreeWith) (maxL := 3) (ret := (some .boolean)) (own := RX2) hG (by decide) rfl rfl (Nat.le_of_ble_eq_true rfl) ?_
  intro p e s m args below meth c ls H locs F hl hP hS
  have hl : lv_has ls 3 [(0, .ref (ga G 17)), (1, .ref (ga G j1))] := hl
  unfold fX2_agreeWith at hf
  refine lv_iconst (v := (0 : Int32)) F.1.1 F.1.2.1 dX2_agreeWith_0 (by decide) ?_
  refine lv_istore_n (lv' := [(2, .int (0 : Int32)), (0, .ref (ga G 17)), (1, .ref (ga G j1))]) F.1.1 F.1.2.1 dX2_agreeWith_1 rfl hl (by decide) rfl (fun ls hl => ?_)
  exact lX2_agreeWith_L2 l G F j1 sj1 _ _ FU (0 : Int32) μ H locs ls hP hS (lv_sub hl [1, 2, 0] rfl) hf
abbrev rmX5_fitsInOrder : Room := { frames := 4, cells := 0, slots := 0, locals := 92 }
theorem hdX5_fitsInOrder : yX5_fitsInOrder.cls = RX5 ∧ yX5_fitsInOrder.cls ≠ "java/lang/invoke/MethodHandle" ∧ yX5_fitsInOrder.cls ≠ "java/lang/invoke/VarHandle" ∧ (parseMethodDescriptor yX5_fitsInOrder.desc).map (fun d => d.parameters.length) = some 0 := by decide +kernel
theorem kX5_fitsInOrder_12 : Cond.fieldLink RX5 12 "PaperLayers" "now" "LPaperLayers$Wall;" ∈ wsX5_fitsInOrder := List.mem_cons_of_mem _ (List.mem_append_left _ (List.mem_append_left _ (List.mem_append_left _ (List.mem_append_left _ (List.mem_append_left _ (List.mem_append_left _ (List.mem_of_getElem? (i := 1) rfl)))))))
theorem kX5_fitsInOrder_18 : Cond.fieldLink RX5 18 "PaperLayers" "trial" "LPaperLayers$Wall;" ∈ wsX5_fitsInOrder := List.mem_cons_of_mem _ (List.mem_append_left _ (List.mem_append_left _ (List.mem_append_left _ (List.mem_append_left _ (List.mem_append_left _ (List.mem_append_left _ (List.mem_of_getElem? (i := 0) rfl)))))))
theorem kX5_fitsInOrder_24 : Cond.fieldLink RX5 24 "PaperLayers" "readings" "LPaperLayers$Readings;" ∈ wsX5_fitsInOrder := List.mem_cons_of_mem _ (List.mem_append_left _ (List.mem_append_left _ (List.mem_append_left _ (List.mem_append_left _ (List.mem_append_left _ (List.mem_append_left _ (List.mem_of_getElem? (i := 3) rfl)))))))
theorem kX5_fitsInOrder_31 : Cond.fieldLink RX5 31 "PaperLayers" "order" "LPaperLayers$Order;" ∈ wsX5_fitsInOrder := List.mem_cons_of_mem _ (List.mem_append_left _ (List.mem_append_left _ (List.mem_append_left _ (List.mem_append_left _ (List.mem_append_left _ (List.mem_append_left _ (List.mem_of_getElem? (i := 2) rfl)))))))
theorem inX5_fitsInOrder_5 : ∀ w ∈ wsX50, w ∈ wsX5_fitsInOrder := fun _ h => List.mem_cons_of_mem _ (List.mem_append_left _ (List.mem_append_left _ (List.mem_append_left _ (List.mem_append_left _ (List.mem_append_right _ (h))))))
set_option maxHeartbeats 4000000 in
set_option maxRecDepth 100000 in
theorem mX5_fitsInOrder (l : Launch) (G : GT) (hG : GD G) (μ : Mem) (r : Int32) (μ' : Mem) (hf : fX5_fitsInOrder μ = some (r, μ')) : Ct l yX5_fitsInOrder wsX5_fitsInOrder rmX5_fitsInOrder G [.ref (ga G 0)] μ (some (.int r)) μ' := by
  refine Ct.of (cc := cX5_fitsInOrder) (maxL := 1) (ret := (some .boolean)) (own := RX5) hG (by decide) rfl rfl (Nat.le_of_ble_eq_true rfl) ?_
  intro p e s m args below meth c ls H locs F hl hP hS
  have hl : lv_has ls 1 [(0, .ref (ga G 0))] := hl
  unfold fX5_fitsInOrder at hf
  refine lv_aload_n F.1.1 F.1.2.1 dX5_fitsInOrder_0 rfl (lv_at hl 0 rfl) ?_
  refine gt_5_1 F hP 0 rfl inX5_fitsInOrder_5 kX5_fitsInOrder_18 dX5_fitsInOrder_1 ?_
  refine lv_aload_n F.1.1 F.1.2.1 dX5_fitsInOrder_4 rfl (lv_at hl 0 rfl) ?_
  refine gt_5_0 F hP 0 rfl inX5_fitsInOrder_5 kX5_fitsInOrder_12 dX5_fitsInOrder_5 ?_
  refine lv_aload_n F.1.1 F.1.2.1 dX5_fitsInOrder_8 rfl (lv_at hl 0 rfl) ?_
  refine gt_5_3 F hP 0 rfl inX5_fitsInOrder_5 kX5_fitsInOrder_31 dX5_fitsInOrder_9 ?_
  obtain ⟨u_3, μ_1, hc_2, hf⟩ := bnd_some hf
  refine rVv (R := rmX5_fitsInOrder) (As := [.ref (ga G 1), .ref (ga G 20)]) (rest := []) F hP hS hl (mX4_becomeOrdered l G F.2.2.2.2 9 rfl 1 rfl _ _ _ hc_2) gX5_fitsInOrder_X4_becomeOrdered rfl hdX4_becomeOrdered rfl rfl rfl ⟨Nat.le_of_ble_eq_true rfl, Nat.le_of_ble_eq_true rfl⟩ (by decide) rfl rfl rfl (Nat.le_of_ble_eq_true rfl) ⟨Nat.le_of_ble_eq_true rfl, Nat.le_of_ble_eq_true rfl⟩ dX5_fitsInOrder_12 (fun H locs hP hS => ?_)
  refine lv_aload_n F.1.1 F.1.2.1 dX5_fitsInOrder_15 rfl (lv_at hl 0 rfl) ?_
  refine gt_5_2 F hP 0 rfl inX5_fitsInOrder_5 kX5_fitsInOrder_24 dX5_fitsInOrder_16 ?_
  refine lv_aload_n F.1.1 F.1.2.1 dX5_fitsInOrder_19 rfl (lv_at hl 0 rfl) ?_
  refine gt_5_1 F hP 0 rfl inX5_fitsInOrder_5 kX5_fitsInOrder_18 dX5_fitsInOrder_20 ?_
  obtain ⟨r_6, μ_4, hc_5, hf⟩ := bnd_some hf
  refine rV1 (R := rmX5_fitsInOrder) (As := [.ref (ga G 9)]) (rest := []) F hP hS hl (mX2_agreeWith l G F.2.2.2.2 9 rfl _ _ _ hc_5) gX5_fitsInOrder_X2_agreeWith rfl hdX2_agreeWith rfl rfl rfl ⟨Nat.le_of_ble_eq_true rfl, Nat.le_of_ble_eq_true rfl⟩ (by decide) rfl rfl rfl (Nat.le_of_ble_eq_true rfl) ⟨Nat.le_of_ble_eq_true rfl, Nat.le_of_ble_eq_true rfl⟩ dX5_fitsInOrder_23 (fun H locs hP hS => ?_)
  exact retZ F hP hS dX5_fitsInOrder_26 hf
abbrev rmX1_placeOfNextGreater : Room := { frames := 0, cells := 0, slots := 0, locals := 0 }
theorem hdX1_placeOfNextGreater : yX1_placeOfNextGreater.cls = RX1 ∧ yX1_placeOfNextGreater.cls ≠ "java/lang/invoke/MethodHandle" ∧ yX1_placeOfNextGreater.cls ≠ "java/lang/invoke/VarHandle" ∧ (parseMethodDescriptor yX1_placeOfNextGreater.desc).map (fun d => d.parameters.length) = some 1 := by decide +kernel
theorem kX1_placeOfNextGreater_24 : Cond.fieldLink RX1 24 "PaperLayers$Order" "count" "I" ∈ wsX1_placeOfNextGreater := List.mem_cons_of_mem _ (List.mem_append_left _ (List.mem_of_getElem? (i := 0) rfl))
theorem kX1_placeOfNextGreater_9 : Cond.fieldLink RX1 9 "PaperLayers$Order" "row" "[I" ∈ wsX1_placeOfNextGreater := List.mem_cons_of_mem _ (List.mem_append_left _ (List.mem_of_getElem? (i := 1) rfl))
theorem inX1_placeOfNextGreater_1 : ∀ w ∈ wsX10, w ∈ wsX1_placeOfNextGreater := fun _ h => List.mem_cons_of_mem _ (List.mem_append_right _ (h))
set_option maxHeartbeats 4000000 in
set_option maxRecDepth 100000 in
theorem lX1_placeOfNextGreater_L7 (l : Launch) (G : GT) {p : Program} {e : Env} {s : State} {m : MethodId} {args : Array Value} {below : List Frame} {meth : Method} {c : Code} (F : Fx p s m args meth c cX1_placeOfNextGreater 3 wsX1_placeOfNextGreater RX1 (some .int) G) (x1 : Int32) (r : Int32) (μ' : Mem) : ∀ (fuel : Nat), ∀ (x2 : Int32) (μ : Mem) (H : Heap) (locs : List Loc) (ls : Array Slot), Hh G μ H → va_S (gA G) s.heap H locs → lv_has ls 3 [(0, .ref (ga G 20)), (1, .int x1), (2, .int x2)] → fX1_placeOfNextGreater_L7 x1 fuel x2 μ = some (r, μ') → W p l e rmX1_placeOfNextGreater s m args below meth c H locs 0 0 (MQ below (Qg G (some (.int r)) μ') args s 0 0 (gA G)) (F0 m 7 ls []) := by
  intro fuel
  induction fuel with
  | zero =>
    intro x2 μ H locs ls hP hS hl hf
    exact absurd hf (by intro h; cases h)
  | succ fuel ih7 =>
    intro x2 μ H locs ls hP hS hl hf
    have hf : sX1_placeOfNextGreater_L7 (fX1_placeOfNextGreater_L7 x1 fuel) x1 x2 μ = some (r, μ') := hf
    unfold sX1_placeOfNextGreater_L7 at hf
    refine lv_iload_n F.1.1 F.1.2.1 dX1_placeOfNextGreater_7 rfl (lv_at hl 2 rfl) ?_
    refine lv_iload_n F.1.1 F.1.2.1 dX1_placeOfNextGreater_8 rfl (lv_at hl 1 rfl) ?_
    refine jc_le (tgt := 35) F dX1_placeOfNextGreater_9 (by decide) hf (fun hf => ?_) (fun hf => ?_)
    · refine lv_iload_n F.1.1 F.1.2.1 dX1_placeOfNextGreater_35 rfl (lv_at hl 1 rfl) ?_
      exact retI F hP hS dX1_placeOfNextGreater_36 hf
    · refine lv_aload_n F.1.1 F.1.2.1 dX1_placeOfNextGreater_12 rfl (lv_at hl 0 rfl) ?_
      refine gt_1_0 F hP 20 rfl inX1_placeOfNextGreater_1 kX1_placeOfNextGreater_9 dX1_placeOfNextGreater_13 ?_
      refine lv_iload_n F.1.1 F.1.2.1 dX1_placeOfNextGreater_16 rfl (lv_at hl 2 rfl) ?_
      refine r_ial F hP 21 rfl rfl dX1_placeOfNextGreater_17 hf (fun hf => ?_)
      refine lv_aload_n F.1.1 F.1.2.1 dX1_placeOfNextGreater_18 rfl (lv_at hl 0 rfl) ?_
      refine gt_1_0 F hP 20 rfl inX1_placeOfNextGreater_1 kX1_placeOfNextGreater_9 dX1_placeOfNextGreater_19 ?_
      refine lv_iload_n F.1.1 F.1.2.1 dX1_placeOfNextGreater_22 rfl (lv_at hl 1 rfl) ?_
      refine r_ial F hP 21 rfl rfl dX1_placeOfNextGreater_23 hf (fun hf => ?_)
      refine jc_le (tgt := 29) F dX1_placeOfNextGreater_24 (by decide) hf (fun hf => ?_) (fun hf => ?_)
      · refine top_n hf (fun y_2 ey_2 hf => ?_)
        refine lv_iinc (v := y_2) (lv' := [(2, .int y_2), (0, .ref (ga G 20)), (1, .int x1)]) F.1.1 F.1.2.1 dX1_placeOfNextGreater_29 hl (k := 2) rfl ey_2 (by decide) rfl (fun ls hl => ?_)
        refine lv_goto (tgt := 7) F.1.1 F.1.2.1 dX1_placeOfNextGreater_32 (by decide) ?_
        exact ih7 y_2 μ H locs ls hP hS (lv_sub hl [1, 2, 0] rfl) hf
      · refine lv_iload_n F.1.1 F.1.2.1 dX1_placeOfNextGreater_27 rfl (lv_at hl 2 rfl) ?_
        exact retI F hP hS dX1_placeOfNextGreater_28 hf
set_option maxHeartbeats 4000000 in
set_option maxRecDepth 100000 in
theorem mX1_placeOfNextGreater (l : Launch) (G : GT) (hG : GD G) (x1 : Int32) (μ : Mem) (r : Int32) (μ' : Mem) (hf : fX1_placeOfNextGreater x1 μ = some (r, μ')) : Ct l yX1_placeOfNextGreater wsX1_placeOfNextGreater rmX1_placeOfNextGreater G [.ref (ga G 20), .int x1] μ (some (.int r)) μ' := by
  refine Ct.of (cc := cX1_placeOfNextGreater) (maxL := 3) (ret := (some .int)) (own := RX1) hG (by decide) rfl rfl (Nat.le_of_ble_eq_true rfl) ?_
  intro p e s m args below meth c ls H locs F hl hP hS
  have hl : lv_has ls 3 [(0, .ref (ga G 20)), (1, .int x1)] := hl
  unfold fX1_placeOfNextGreater at hf
  refine lv_aload_n F.1.1 F.1.2.1 dX1_placeOfNextGreater_0 rfl (lv_at hl 0 rfl) ?_
  refine gt_1_1 F hP 20 rfl inX1_placeOfNextGreater_1 kX1_placeOfNextGreater_24 dX1_placeOfNextGreater_1 ?_
  refine lv_iconst (v := (1 : Int32)) F.1.1 F.1.2.1 dX1_placeOfNextGreater_4 (by decide) ?_
  refine lv_isub F.1.1 F.1.2.1 dX1_placeOfNextGreater_5 ?_
  refine top_i hf (fun y_1 hf => ?_)
  refine lv_istore_n (lv' := [(2, .int y_1), (0, .ref (ga G 20)), (1, .int x1)]) F.1.1 F.1.2.1 dX1_placeOfNextGreater_6 rfl hl (by decide) rfl (fun ls hl => ?_)
  exact lX1_placeOfNextGreater_L7 l G F x1 _ _ FU y_1 μ H locs ls hP hS (lv_sub hl [1, 2, 0] rfl) hf
abbrev rmX1_swap : Room := { frames := 0, cells := 0, slots := 0, locals := 0 }
theorem hdX1_swap : yX1_swap.cls = RX1 ∧ yX1_swap.cls ≠ "java/lang/invoke/MethodHandle" ∧ yX1_swap.cls ≠ "java/lang/invoke/VarHandle" ∧ (parseMethodDescriptor yX1_swap.desc).map (fun d => d.parameters.length) = some 2 := by decide +kernel
theorem kX1_swap_9 : Cond.fieldLink RX1 9 "PaperLayers$Order" "row" "[I" ∈ wsX1_swap := List.mem_cons_of_mem _ (List.mem_append_left _ (List.mem_of_getElem? (i := 0) rfl))
theorem inX1_swap_1 : ∀ w ∈ wsX10, w ∈ wsX1_swap := fun _ h => List.mem_cons_of_mem _ (List.mem_append_right _ (h))
set_option maxHeartbeats 4000000 in
set_option maxRecDepth 100000 in
theorem mX1_swap (l : Launch) (G : GT) (hG : GD G) (x1 : Int32) (x2 : Int32) (μ : Mem) (r : Unit) (μ' : Mem) (hf : fX1_swap x1 x2 μ = some (r, μ')) : Ct l yX1_swap wsX1_swap rmX1_swap G [.ref (ga G 20), .int x1, .int x2] μ none μ' := by
  refine Ct.of (cc := cX1_swap) (maxL := 4) (ret := none) (own := RX1) hG (by decide) rfl rfl (Nat.le_of_ble_eq_true rfl) ?_
  intro p e s m args below meth c ls H locs F hl hP hS
  have hl : lv_has ls 4 [(0, .ref (ga G 20)), (1, .int x1), (2, .int x2)] := hl
  unfold fX1_swap at hf
  refine lv_aload_n F.1.1 F.1.2.1 dX1_swap_0 rfl (lv_at hl 0 rfl) ?_
  refine gt_1_0 F hP 20 rfl inX1_swap_1 kX1_swap_9 dX1_swap_1 ?_
  refine lv_iload_n F.1.1 F.1.2.1 dX1_swap_4 rfl (lv_at hl 1 rfl) ?_
  refine r_ial F hP 21 rfl rfl dX1_swap_5 hf (fun hf => ?_)
  refine top_i hf (fun y_1 hf => ?_)
  refine lv_istore_n (lv' := [(3, .int y_1), (0, .ref (ga G 20)), (1, .int x1), (2, .int x2)]) F.1.1 F.1.2.1 dX1_swap_6 rfl hl (by decide) rfl (fun ls hl => ?_)
  refine lv_aload_n F.1.1 F.1.2.1 dX1_swap_7 rfl (lv_at hl 1 rfl) ?_
  refine gt_1_0 F hP 20 rfl inX1_swap_1 kX1_swap_9 dX1_swap_8 ?_
  refine lv_iload_n F.1.1 F.1.2.1 dX1_swap_11 rfl (lv_at hl 2 rfl) ?_
  refine lv_aload_n F.1.1 F.1.2.1 dX1_swap_12 rfl (lv_at hl 1 rfl) ?_
  refine gt_1_0 F hP 20 rfl inX1_swap_1 kX1_swap_9 dX1_swap_13 ?_
  refine lv_iload_n F.1.1 F.1.2.1 dX1_swap_16 rfl (lv_at hl 3 rfl) ?_
  refine r_ial F hP 21 rfl rfl dX1_swap_17 hf (fun hf => ?_)
  refine r_ias F hP hS 21 rfl rfl dX1_swap_18 hf (fun μ_2 H locs hP hS hf => ?_)
  refine lv_aload_n F.1.1 F.1.2.1 dX1_swap_19 rfl (lv_at hl 1 rfl) ?_
  refine gt_1_0 F hP 20 rfl inX1_swap_1 kX1_swap_9 dX1_swap_20 ?_
  refine lv_iload_n F.1.1 F.1.2.1 dX1_swap_23 rfl (lv_at hl 3 rfl) ?_
  refine lv_iload_n F.1.1 F.1.2.1 dX1_swap_24 rfl (lv_at hl 0 rfl) ?_
  refine r_ias F hP hS 21 rfl rfl dX1_swap_25 hf (fun μ_3 H locs hP hS hf => ?_)
  exact retV F hP hS dX1_swap_26 hf
abbrev rmX1_reverseFrom : Room := { frames := 1, cells := 0, slots := 0, locals := 23 }
theorem hdX1_reverseFrom : yX1_reverseFrom.cls = RX1 ∧ yX1_reverseFrom.cls ≠ "java/lang/invoke/MethodHandle" ∧ yX1_reverseFrom.cls ≠ "java/lang/invoke/VarHandle" ∧ (parseMethodDescriptor yX1_reverseFrom.desc).map (fun d => d.parameters.length) = some 1 := by decide +kernel
theorem kX1_reverseFrom_24 : Cond.fieldLink RX1 24 "PaperLayers$Order" "count" "I" ∈ wsX1_reverseFrom := List.mem_cons_of_mem _ (List.mem_append_left _ (List.mem_of_getElem? (i := 0) rfl))
theorem inX1_reverseFrom_1 : ∀ w ∈ wsX10, w ∈ wsX1_reverseFrom := fun _ h => List.mem_cons_of_mem _ (List.mem_append_right _ (h))
set_option maxHeartbeats 4000000 in
set_option maxRecDepth 100000 in
theorem lX1_reverseFrom_L9 (l : Launch) (G : GT) {p : Program} {e : Env} {s : State} {m : MethodId} {args : Array Value} {below : List Frame} {meth : Method} {c : Code} (F : Fx p s m args meth c cX1_reverseFrom 4 wsX1_reverseFrom RX1 none G) (r : Unit) (μ' : Mem) : ∀ (fuel : Nat), ∀ (x2 : Int32) (x3 : Int32) (μ : Mem) (H : Heap) (locs : List Loc) (ls : Array Slot), Hh G μ H → va_S (gA G) s.heap H locs → lv_has ls 4 [(0, .ref (ga G 20)), (2, .int x2), (3, .int x3)] → fX1_reverseFrom_L9 fuel x2 x3 μ = some (r, μ') → W p l e rmX1_reverseFrom s m args below meth c H locs 0 0 (MQ below (Qg G none μ') args s 0 0 (gA G)) (F0 m 9 ls []) := by
  intro fuel
  induction fuel with
  | zero =>
    intro x2 x3 μ H locs ls hP hS hl hf
    exact absurd hf (by intro h; cases h)
  | succ fuel ih9 =>
    intro x2 x3 μ H locs ls hP hS hl hf
    have hf : sX1_reverseFrom_L9 (fX1_reverseFrom_L9 fuel) x2 x3 μ = some (r, μ') := hf
    unfold sX1_reverseFrom_L9 at hf
    refine lv_iload_n F.1.1 F.1.2.1 dX1_reverseFrom_9 rfl (lv_at hl 2 rfl) ?_
    refine lv_iload_n F.1.1 F.1.2.1 dX1_reverseFrom_10 rfl (lv_at hl 1 rfl) ?_
    refine jc_ge (tgt := 29) F dX1_reverseFrom_11 (by decide) hf (fun hf => ?_) (fun hf => ?_)
    · exact retV F hP hS dX1_reverseFrom_29 hf
    · refine lv_aload_n F.1.1 F.1.2.1 dX1_reverseFrom_14 rfl (lv_at hl 0 rfl) ?_
      refine lv_iload_n F.1.1 F.1.2.1 dX1_reverseFrom_15 rfl (lv_at hl 2 rfl) ?_
      refine lv_iload_n F.1.1 F.1.2.1 dX1_reverseFrom_16 rfl (lv_at hl 1 rfl) ?_
      obtain ⟨u_4, μ_2, hc_3, hf⟩ := bnd_some hf
      refine rVv (R := rmX1_reverseFrom) (As := [.int x3, .int x2]) (rest := []) F hP hS hl (mX1_swap l G F.2.2.2.2 x3 x2 _ _ _ hc_3) gX1_reverseFrom_X1_swap rfl hdX1_swap rfl rfl rfl ⟨Nat.le_of_ble_eq_true rfl, Nat.le_of_ble_eq_true rfl⟩ (by decide) rfl rfl rfl (Nat.le_of_ble_eq_true rfl) ⟨Nat.le_of_ble_eq_true rfl, Nat.le_of_ble_eq_true rfl⟩ dX1_reverseFrom_17 (fun H locs hP hS => ?_)
      refine top_n hf (fun y_5 ey_5 hf => ?_)
      refine lv_iinc (v := y_5) (lv' := [(2, .int y_5), (0, .ref (ga G 20)), (3, .int x3)]) F.1.1 F.1.2.1 dX1_reverseFrom_20 hl (k := 1) rfl ey_5 (by decide) rfl (fun ls hl => ?_)
      refine top_n hf (fun y_6 ey_6 hf => ?_)
      refine lv_iinc (v := y_6) (lv' := [(3, .int y_6), (2, .int y_5), (0, .ref (ga G 20))]) F.1.1 F.1.2.1 dX1_reverseFrom_23 hl (k := 2) rfl ey_6 (by decide) rfl (fun ls hl => ?_)
      refine lv_goto (tgt := 9) F.1.1 F.1.2.1 dX1_reverseFrom_26 (by decide) ?_
      exact ih9 y_5 y_6 μ_2 H locs ls hP hS (lv_sub hl [2, 1, 0] rfl) hf
set_option maxHeartbeats 4000000 in
set_option maxRecDepth 100000 in
theorem mX1_reverseFrom (l : Launch) (G : GT) (hG : GD G) (x1 : Int32) (μ : Mem) (r : Unit) (μ' : Mem) (hf : fX1_reverseFrom x1 μ = some (r, μ')) : Ct l yX1_reverseFrom wsX1_reverseFrom rmX1_reverseFrom G [.ref (ga G 20), .int x1] μ none μ' := by
  refine Ct.of (cc := cX1_reverseFrom) (maxL := 4) (ret := none) (own := RX1) hG (by decide) rfl rfl (Nat.le_of_ble_eq_true rfl) ?_
  intro p e s m args below meth c ls H locs F hl hP hS
  have hl : lv_has ls 4 [(0, .ref (ga G 20)), (1, .int x1)] := hl
  unfold fX1_reverseFrom at hf
  refine lv_aload_n F.1.1 F.1.2.1 dX1_reverseFrom_0 rfl (lv_at hl 0 rfl) ?_
  refine gt_1_1 F hP 20 rfl inX1_reverseFrom_1 kX1_reverseFrom_24 dX1_reverseFrom_1 ?_
  refine lv_iconst (v := (1 : Int32)) F.1.1 F.1.2.1 dX1_reverseFrom_4 (by decide) ?_
  refine lv_isub F.1.1 F.1.2.1 dX1_reverseFrom_5 ?_
  refine top_i hf (fun y_1 hf => ?_)
  refine lv_istore_n (lv' := [(2, .int y_1), (0, .ref (ga G 20)), (1, .int x1)]) F.1.1 F.1.2.1 dX1_reverseFrom_6 rfl hl (by decide) rfl (fun ls hl => ?_)
  refine lv_iload_n F.1.1 F.1.2.1 dX1_reverseFrom_7 rfl (lv_at hl 2 rfl) ?_
  refine lv_istore_n (lv' := [(3, .int x1), (2, .int y_1), (0, .ref (ga G 20)), (1, .int x1)]) F.1.1 F.1.2.1 dX1_reverseFrom_8 rfl hl (by decide) rfl (fun ls hl => ?_)
  exact lX1_reverseFrom_L9 l G F _ _ FU y_1 x1 μ H locs ls hP hS (lv_sub hl [2, 1, 0] rfl) hf
abbrev rmX1_next : Room := { frames := 2, cells := 0, slots := 0, locals := 46 }
theorem hdX1_next : yX1_next.cls = RX1 ∧ yX1_next.cls ≠ "java/lang/invoke/MethodHandle" ∧ yX1_next.cls ≠ "java/lang/invoke/VarHandle" ∧ (parseMethodDescriptor yX1_next.desc).map (fun d => d.parameters.length) = some 0 := by decide +kernel
theorem kX1_next_24 : Cond.fieldLink RX1 24 "PaperLayers$Order" "count" "I" ∈ wsX1_next := List.mem_cons_of_mem _ (List.mem_append_left _ (List.mem_of_getElem? (i := 0) rfl))
theorem kX1_next_9 : Cond.fieldLink RX1 9 "PaperLayers$Order" "row" "[I" ∈ wsX1_next := List.mem_cons_of_mem _ (List.mem_append_left _ (List.mem_of_getElem? (i := 1) rfl))
theorem inX1_next_1 : ∀ w ∈ wsX10, w ∈ wsX1_next := fun _ h => List.mem_cons_of_mem _ (List.mem_append_right _ (h))
set_option maxHeartbeats 4000000 in
set_option maxRecDepth 100000 in
theorem lX1_next_L7 (l : Launch) (G : GT) {p : Program} {e : Env} {s : State} {m : MethodId} {args : Array Value} {below : List Frame} {meth : Method} {c : Code} (F : Fx p s m args meth c cX1_next 2 wsX1_next RX1 (some .boolean) G) (r : Int32) (μ' : Mem) : ∀ (fuel : Nat), ∀ (x1 : Int32) (μ : Mem) (H : Heap) (locs : List Loc) (ls : Array Slot), Hh G μ H → va_S (gA G) s.heap H locs → lv_has ls 2 [(0, .ref (ga G 20)), (1, .int x1)] → fX1_next_L7 fuel x1 μ = some (r, μ') → W p l e rmX1_next s m args below meth c H locs 0 0 (MQ below (Qg G (some (.int r)) μ') args s 0 0 (gA G)) (F0 m 7 ls []) := by
  intro fuel
  induction fuel with
  | zero =>
    intro x1 μ H locs ls hP hS hl hf
    exact absurd hf (by intro h; cases h)
  | succ fuel ih7 =>
    intro x1 μ H locs ls hP hS hl hf
    have hf : sX1_next_L7 (fX1_next_L7 fuel) x1 μ = some (r, μ') := hf
    unfold sX1_next_L7 at hf
    refine lv_iload_n F.1.1 F.1.2.1 dX1_next_7 rfl (lv_at hl 1 rfl) ?_
    refine jz_lt (tgt := 53) F dX1_next_8 (by decide) hf (fun hf => ?_) (fun hf => ?_)
    · refine lv_iconst (v := (0 : Int32)) F.1.1 F.1.2.1 dX1_next_53 (by decide) ?_
      exact retC F hP hS dX1_next_54 (by decide) hf
    · refine lv_aload_n F.1.1 F.1.2.1 dX1_next_11 rfl (lv_at hl 0 rfl) ?_
      refine gt_1_0 F hP 20 rfl inX1_next_1 kX1_next_9 dX1_next_12 ?_
      refine lv_iload_n F.1.1 F.1.2.1 dX1_next_15 rfl (lv_at hl 1 rfl) ?_
      refine r_ial F hP 21 rfl rfl dX1_next_16 hf (fun hf => ?_)
      refine lv_aload_n F.1.1 F.1.2.1 dX1_next_17 rfl (lv_at hl 0 rfl) ?_
      refine gt_1_0 F hP 20 rfl inX1_next_1 kX1_next_9 dX1_next_18 ?_
      refine lv_iload_n F.1.1 F.1.2.1 dX1_next_21 rfl (lv_at hl 1 rfl) ?_
      refine lv_iconst (v := (1 : Int32)) F.1.1 F.1.2.1 dX1_next_22 (by decide) ?_
      refine lv_iadd F.1.1 F.1.2.1 dX1_next_23 ?_
      refine r_ial F hP 21 rfl rfl dX1_next_24 hf (fun hf => ?_)
      refine jc_ge (tgt := 47) F dX1_next_25 (by decide) hf (fun hf => ?_) (fun hf => ?_)
      · refine top_n hf (fun y_2 ey_2 hf => ?_)
        refine lv_iinc (v := y_2) (lv' := [(1, .int y_2), (0, .ref (ga G 20))]) F.1.1 F.1.2.1 dX1_next_47 hl (k := 1) rfl ey_2 (by decide) rfl (fun ls hl => ?_)
        refine lv_goto (tgt := 7) F.1.1 F.1.2.1 dX1_next_50 (by decide) ?_
        exact ih7 y_2 μ H locs ls hP hS (lv_sub hl [1, 0] rfl) hf
      · refine lv_aload_n F.1.1 F.1.2.1 dX1_next_28 rfl (lv_at hl 0 rfl) ?_
        refine lv_iload_n F.1.1 F.1.2.1 dX1_next_29 rfl (lv_at hl 1 rfl) ?_
        refine lv_aload_n F.1.1 F.1.2.1 dX1_next_30 rfl (lv_at hl 0 rfl) ?_
        refine lv_iload_n F.1.1 F.1.2.1 dX1_next_31 rfl (lv_at hl 1 rfl) ?_
        obtain ⟨r_5, μ_3, hc_4, hf⟩ := bnd_some hf
        refine rV1 (R := rmX1_next) (As := [.int x1]) (rest := [.int x1, .ref (ga G 20)]) F hP hS hl (mX1_placeOfNextGreater l G F.2.2.2.2 x1 _ _ _ hc_4) gX1_next_X1_placeOfNextGreater rfl hdX1_placeOfNextGreater rfl rfl rfl ⟨Nat.le_of_ble_eq_true rfl, Nat.le_of_ble_eq_true rfl⟩ (by decide) rfl rfl rfl (Nat.le_of_ble_eq_true rfl) ⟨Nat.le_of_ble_eq_true rfl, Nat.le_of_ble_eq_true rfl⟩ dX1_next_32 (fun H locs hP hS => ?_)
        obtain ⟨u_8, μ_6, hc_7, hf⟩ := bnd_some hf
        refine rVv (R := rmX1_next) (As := [.int x1, .int r_5]) (rest := []) F hP hS hl (mX1_swap l G F.2.2.2.2 x1 r_5 _ _ _ hc_7) gX1_next_X1_swap rfl hdX1_swap rfl rfl rfl ⟨Nat.le_of_ble_eq_true rfl, Nat.le_of_ble_eq_true rfl⟩ (by decide) rfl rfl rfl (Nat.le_of_ble_eq_true rfl) ⟨Nat.le_of_ble_eq_true rfl, Nat.le_of_ble_eq_true rfl⟩ dX1_next_35 (fun H locs hP hS => ?_)
        refine lv_aload_n F.1.1 F.1.2.1 dX1_next_38 rfl (lv_at hl 0 rfl) ?_
        refine lv_iload_n F.1.1 F.1.2.1 dX1_next_39 rfl (lv_at hl 1 rfl) ?_
        refine lv_iconst (v := (1 : Int32)) F.1.1 F.1.2.1 dX1_next_40 (by decide) ?_
        refine lv_iadd F.1.1 F.1.2.1 dX1_next_41 ?_
        obtain ⟨u_11, μ_9, hc_10, hf⟩ := bnd_some hf
        refine rVv (R := rmX1_next) (As := [.int (x1 + (1 : Int32))]) (rest := []) F hP hS hl (mX1_reverseFrom l G F.2.2.2.2 (x1 + (1 : Int32)) _ _ _ hc_10) gX1_next_X1_reverseFrom rfl hdX1_reverseFrom rfl rfl rfl ⟨Nat.le_of_ble_eq_true rfl, Nat.le_of_ble_eq_true rfl⟩ (by decide) rfl rfl rfl (Nat.le_of_ble_eq_true rfl) ⟨Nat.le_of_ble_eq_true rfl, Nat.le_of_ble_eq_true rfl⟩ dX1_next_42 (fun H locs hP hS => ?_)
        refine lv_iconst (v := (1 : Int32)) F.1.1 F.1.2.1 dX1_next_45 (by decide) ?_
        exact retC F hP hS dX1_next_46 (by decide) hf
set_option maxHeartbeats 4000000 in
set_option maxRecDepth 100000 in
theorem mX1_next (l : Launch) (G : GT) (hG : GD G) (μ : Mem) (r : Int32) (μ' : Mem) (hf : fX1_next μ = some (r, μ')) : Ct l yX1_next wsX1_next rmX1_next G [.ref (ga G 20)] μ (some (.int r)) μ' := by
  refine Ct.of (cc := cX1_next) (maxL := 2) (ret := (some .boolean)) (own := RX1) hG (by decide) rfl rfl (Nat.le_of_ble_eq_true rfl) ?_
  intro p e s m args below meth c ls H locs F hl hP hS
  have hl : lv_has ls 2 [(0, .ref (ga G 20))] := hl
  unfold fX1_next at hf
  refine lv_aload_n F.1.1 F.1.2.1 dX1_next_0 rfl (lv_at hl 0 rfl) ?_
  refine gt_1_1 F hP 20 rfl inX1_next_1 kX1_next_24 dX1_next_1 ?_
  refine lv_iconst (v := (2 : Int32)) F.1.1 F.1.2.1 dX1_next_4 (by decide) ?_
  refine lv_isub F.1.1 F.1.2.1 dX1_next_5 ?_
  refine top_i hf (fun y_1 hf => ?_)
  refine lv_istore_n (lv' := [(1, .int y_1), (0, .ref (ga G 20))]) F.1.1 F.1.2.1 dX1_next_6 rfl hl (by decide) rfl (fun ls hl => ?_)
  exact lX1_next_L7 l G F _ _ FU y_1 μ H locs ls hP hS (lv_sub hl [1, 0] rfl) hf
abbrev rmX5_countOrders : Room := { frames := 5, cells := 0, slots := 0, locals := 112 }
theorem hdX5_countOrders : yX5_countOrders.cls = RX5 ∧ yX5_countOrders.cls ≠ "java/lang/invoke/MethodHandle" ∧ yX5_countOrders.cls ≠ "java/lang/invoke/VarHandle" ∧ (parseMethodDescriptor yX5_countOrders.desc).map (fun d => d.parameters.length) = some 0 := by decide +kernel
theorem kX5_countOrders_12 : Cond.fieldLink RX5 12 "PaperLayers" "now" "LPaperLayers$Wall;" ∈ wsX5_countOrders := List.mem_cons_of_mem _ (List.mem_append_left _ (List.mem_append_left _ (List.mem_append_left _ (List.mem_append_left _ (List.mem_append_left _ (List.mem_append_left _ (List.mem_of_getElem? (i := 1) rfl)))))))
theorem kX5_countOrders_31 : Cond.fieldLink RX5 31 "PaperLayers" "order" "LPaperLayers$Order;" ∈ wsX5_countOrders := List.mem_cons_of_mem _ (List.mem_append_left _ (List.mem_append_left _ (List.mem_append_left _ (List.mem_append_left _ (List.mem_append_left _ (List.mem_append_left _ (List.mem_of_getElem? (i := 0) rfl)))))))
theorem kX5_countOrders_76 : Cond.fieldLink RX5 76 "PaperLayers$Wall" "count" "I" ∈ wsX5_countOrders := List.mem_cons_of_mem _ (List.mem_append_left _ (List.mem_append_left _ (List.mem_append_left _ (List.mem_append_left _ (List.mem_append_left _ (List.mem_append_left _ (List.mem_of_getElem? (i := 2) rfl)))))))
theorem inX5_countOrders_4 : ∀ w ∈ wsX40, w ∈ wsX5_countOrders := fun _ h => List.mem_cons_of_mem _ (List.mem_append_left _ (List.mem_append_left _ (List.mem_append_left _ (List.mem_append_right _ (h)))))
theorem inX5_countOrders_5 : ∀ w ∈ wsX50, w ∈ wsX5_countOrders := fun _ h => List.mem_cons_of_mem _ (List.mem_append_left _ (List.mem_append_left _ (List.mem_append_left _ (List.mem_append_left _ (List.mem_append_right _ (h))))))
set_option maxHeartbeats 4000000 in
set_option maxRecDepth 100000 in
theorem lX5_countOrders_L18 (l : Launch) (G : GT) {p : Program} {e : Env} {s : State} {m : MethodId} {args : Array Value} {below : List Frame} {meth : Method} {c : Code} (F : Fx p s m args meth c cX5_countOrders 3 wsX5_countOrders RX5 (some .int) G) (r : Int32) (μ' : Mem) : ∀ (fuel : Nat), ∀ (x1 : Int32) (x2 : Int32) (μ : Mem) (H : Heap) (locs : List Loc) (ls : Array Slot), Hh G μ H → va_S (gA G) s.heap H locs → lv_has ls 3 [(0, .ref (ga G 0)), (1, .int x1), (2, .int x2)] → fX5_countOrders_L18 fuel x1 x2 μ = some (r, μ') → W p l e rmX5_countOrders s m args below meth c H locs 0 0 (MQ below (Qg G (some (.int r)) μ') args s 0 0 (gA G)) (F0 m 18 ls []) := by
  intro fuel
  induction fuel with
  | zero =>
    intro x1 x2 μ H locs ls hP hS hl hf
    exact absurd hf (by intro h; cases h)
  | succ fuel ih18 =>
    intro x1 x2 μ H locs ls hP hS hl hf
    have hf : sX5_countOrders_L18 (fX5_countOrders_L18 fuel) x1 x2 μ = some (r, μ') := hf
    unfold sX5_countOrders_L18 at hf
    refine lv_iload_n F.1.1 F.1.2.1 dX5_countOrders_18 rfl (lv_at hl 2 rfl) ?_
    refine lv_sipush (v := (720 : Int32)) F.1.1 F.1.2.1 dX5_countOrders_19 (by decide) ?_
    refine jc_ge (tgt := 53) F dX5_countOrders_22 (by decide) hf (fun hf => ?_) (fun hf => ?_)
    · refine lv_iload_n F.1.1 F.1.2.1 dX5_countOrders_53 rfl (lv_at hl 1 rfl) ?_
      exact retI F hP hS dX5_countOrders_54 hf
    · refine lv_aload_n F.1.1 F.1.2.1 dX5_countOrders_25 rfl (lv_at hl 0 rfl) ?_
      obtain ⟨r_6, μ_4, hc_5, hf⟩ := bnd_some hf
      refine rV1 (R := rmX5_countOrders) (As := []) (rest := []) F hP hS hl (mX5_fitsInOrder l G F.2.2.2.2  _ _ _ hc_5) gX5_countOrders_X5_fitsInOrder rfl hdX5_fitsInOrder rfl rfl rfl ⟨Nat.le_of_ble_eq_true rfl, Nat.le_of_ble_eq_true rfl⟩ (by decide) rfl rfl rfl (Nat.le_of_ble_eq_true rfl) ⟨Nat.le_of_ble_eq_true rfl, Nat.le_of_ble_eq_true rfl⟩ dX5_countOrders_26 (fun H locs hP hS => ?_)
      refine jz_eq (tgt := 35) F dX5_countOrders_29 (by decide) hf (fun hf => ?_) (fun hf => ?_)
      · refine lv_aload_n F.1.1 F.1.2.1 dX5_countOrders_35 rfl (lv_at hl 0 rfl) ?_
        refine gt_5_3 F hP 0 rfl inX5_countOrders_5 kX5_countOrders_31 dX5_countOrders_36 ?_
        obtain ⟨r_9, μ_7, hc_8, hf⟩ := bnd_some hf
        refine rV1 (R := rmX5_countOrders) (As := []) (rest := []) F hP hS hl (mX1_next l G F.2.2.2.2  _ _ _ hc_8) gX5_countOrders_X1_next rfl hdX1_next rfl rfl rfl ⟨Nat.le_of_ble_eq_true rfl, Nat.le_of_ble_eq_true rfl⟩ (by decide) rfl rfl rfl (Nat.le_of_ble_eq_true rfl) ⟨Nat.le_of_ble_eq_true rfl, Nat.le_of_ble_eq_true rfl⟩ dX5_countOrders_39 (fun H locs hP hS => ?_)
        refine jz_ne (tgt := 47) F dX5_countOrders_42 (by decide) hf (fun hf => ?_) (fun hf => ?_)
        · refine top_n hf (fun y_10 ey_10 hf => ?_)
          refine lv_iinc (v := y_10) (lv' := [(2, .int y_10), (0, .ref (ga G 0)), (1, .int x1)]) F.1.1 F.1.2.1 dX5_countOrders_47 hl (k := 2) rfl ey_10 (by decide) rfl (fun ls hl => ?_)
          refine lv_goto (tgt := 18) F.1.1 F.1.2.1 dX5_countOrders_50 (by decide) ?_
          exact ih18 x1 y_10 μ_7 H locs ls hP hS (lv_sub hl [1, 2, 0] rfl) hf
        · refine lv_iload_n F.1.1 F.1.2.1 dX5_countOrders_45 rfl (lv_at hl 1 rfl) ?_
          exact retI F hP hS dX5_countOrders_46 hf
      · refine top_n hf (fun y_11 ey_11 hf => ?_)
        refine lv_iinc (v := y_11) (lv' := [(1, .int y_11), (0, .ref (ga G 0)), (2, .int x2)]) F.1.1 F.1.2.1 dX5_countOrders_32 hl (k := 1) rfl ey_11 (by decide) rfl (fun ls hl => ?_)
        refine lv_aload_n F.1.1 F.1.2.1 dX5_countOrders_35 rfl (lv_at hl 1 rfl) ?_
        refine gt_5_3 F hP 0 rfl inX5_countOrders_5 kX5_countOrders_31 dX5_countOrders_36 ?_
        obtain ⟨r_14, μ_12, hc_13, hf⟩ := bnd_some hf
        refine rV1 (R := rmX5_countOrders) (As := []) (rest := []) F hP hS hl (mX1_next l G F.2.2.2.2  _ _ _ hc_13) gX5_countOrders_X1_next rfl hdX1_next rfl rfl rfl ⟨Nat.le_of_ble_eq_true rfl, Nat.le_of_ble_eq_true rfl⟩ (by decide) rfl rfl rfl (Nat.le_of_ble_eq_true rfl) ⟨Nat.le_of_ble_eq_true rfl, Nat.le_of_ble_eq_true rfl⟩ dX5_countOrders_39 (fun H locs hP hS => ?_)
        refine jz_ne (tgt := 47) F dX5_countOrders_42 (by decide) hf (fun hf => ?_) (fun hf => ?_)
        · refine top_n hf (fun y_15 ey_15 hf => ?_)
          refine lv_iinc (v := y_15) (lv' := [(2, .int y_15), (1, .int y_11), (0, .ref (ga G 0))]) F.1.1 F.1.2.1 dX5_countOrders_47 hl (k := 2) rfl ey_15 (by decide) rfl (fun ls hl => ?_)
          refine lv_goto (tgt := 18) F.1.1 F.1.2.1 dX5_countOrders_50 (by decide) ?_
          exact ih18 y_11 y_15 μ_12 H locs ls hP hS (lv_sub hl [2, 1, 0] rfl) hf
        · refine lv_iload_n F.1.1 F.1.2.1 dX5_countOrders_45 rfl (lv_at hl 0 rfl) ?_
          exact retI F hP hS dX5_countOrders_46 hf
set_option maxHeartbeats 4000000 in
set_option maxRecDepth 100000 in
theorem mX5_countOrders (l : Launch) (G : GT) (hG : GD G) (μ : Mem) (r : Int32) (μ' : Mem) (hf : fX5_countOrders μ = some (r, μ')) : Ct l yX5_countOrders wsX5_countOrders rmX5_countOrders G [.ref (ga G 0)] μ (some (.int r)) μ' := by
  refine Ct.of (cc := cX5_countOrders) (maxL := 3) (ret := (some .int)) (own := RX5) hG (by decide) rfl rfl (Nat.le_of_ble_eq_true rfl) ?_
  intro p e s m args below meth c ls H locs F hl hP hS
  have hl : lv_has ls 3 [(0, .ref (ga G 0))] := hl
  unfold fX5_countOrders at hf
  refine lv_iconst (v := (0 : Int32)) F.1.1 F.1.2.1 dX5_countOrders_0 (by decide) ?_
  refine lv_istore_n (lv' := [(1, .int (0 : Int32)), (0, .ref (ga G 0))]) F.1.1 F.1.2.1 dX5_countOrders_1 rfl hl (by decide) rfl (fun ls hl => ?_)
  refine lv_aload_n F.1.1 F.1.2.1 dX5_countOrders_2 rfl (lv_at hl 1 rfl) ?_
  refine gt_5_3 F hP 0 rfl inX5_countOrders_5 kX5_countOrders_31 dX5_countOrders_3 ?_
  refine lv_aload_n F.1.1 F.1.2.1 dX5_countOrders_6 rfl (lv_at hl 1 rfl) ?_
  refine gt_5_0 F hP 0 rfl inX5_countOrders_5 kX5_countOrders_12 dX5_countOrders_7 ?_
  refine gt_4_1 F hP 1 rfl inX5_countOrders_4 kX5_countOrders_76 dX5_countOrders_10 ?_
  obtain ⟨u_3, μ_1, hc_2, hf⟩ := bnd_some hf
  refine rVv (R := rmX5_countOrders) (As := [.int (μ 1 1)]) (rest := []) F hP hS hl (mX1_begin l G F.2.2.2.2 (μ 1 1) _ _ _ hc_2) gX5_countOrders_X1_begin rfl hdX1_begin rfl rfl rfl ⟨Nat.le_of_ble_eq_true rfl, Nat.le_of_ble_eq_true rfl⟩ (by decide) rfl rfl rfl (Nat.le_of_ble_eq_true rfl) ⟨Nat.le_of_ble_eq_true rfl, Nat.le_of_ble_eq_true rfl⟩ dX5_countOrders_13 (fun H locs hP hS => ?_)
  refine lv_iconst (v := (0 : Int32)) F.1.1 F.1.2.1 dX5_countOrders_16 (by decide) ?_
  refine lv_istore_n (lv' := [(2, .int (0 : Int32)), (1, .int (0 : Int32)), (0, .ref (ga G 0))]) F.1.1 F.1.2.1 dX5_countOrders_17 rfl hl (by decide) rfl (fun ls hl => ?_)
  exact lX5_countOrders_L18 l G F _ _ FU (0 : Int32) (0 : Int32) μ_1 H locs ls hP hS (lv_sub hl [2, 1, 0] rfl) hf
abbrev rmX5_findOrder : Room := { frames := 5, cells := 0, slots := 0, locals := 112 }
theorem hdX5_findOrder : yX5_findOrder.cls = RX5 ∧ yX5_findOrder.cls ≠ "java/lang/invoke/MethodHandle" ∧ yX5_findOrder.cls ≠ "java/lang/invoke/VarHandle" ∧ (parseMethodDescriptor yX5_findOrder.desc).map (fun d => d.parameters.length) = some 0 := by decide +kernel
theorem kX5_findOrder_12 : Cond.fieldLink RX5 12 "PaperLayers" "now" "LPaperLayers$Wall;" ∈ wsX5_findOrder := List.mem_cons_of_mem _ (List.mem_append_left _ (List.mem_append_left _ (List.mem_append_left _ (List.mem_append_left _ (List.mem_append_left _ (List.mem_append_left _ (List.mem_of_getElem? (i := 1) rfl)))))))
theorem kX5_findOrder_31 : Cond.fieldLink RX5 31 "PaperLayers" "order" "LPaperLayers$Order;" ∈ wsX5_findOrder := List.mem_cons_of_mem _ (List.mem_append_left _ (List.mem_append_left _ (List.mem_append_left _ (List.mem_append_left _ (List.mem_append_left _ (List.mem_append_left _ (List.mem_of_getElem? (i := 0) rfl)))))))
theorem kX5_findOrder_76 : Cond.fieldLink RX5 76 "PaperLayers$Wall" "count" "I" ∈ wsX5_findOrder := List.mem_cons_of_mem _ (List.mem_append_left _ (List.mem_append_left _ (List.mem_append_left _ (List.mem_append_left _ (List.mem_append_left _ (List.mem_append_left _ (List.mem_of_getElem? (i := 2) rfl)))))))
theorem inX5_findOrder_4 : ∀ w ∈ wsX40, w ∈ wsX5_findOrder := fun _ h => List.mem_cons_of_mem _ (List.mem_append_left _ (List.mem_append_left _ (List.mem_append_left _ (List.mem_append_right _ (h)))))
theorem inX5_findOrder_5 : ∀ w ∈ wsX50, w ∈ wsX5_findOrder := fun _ h => List.mem_cons_of_mem _ (List.mem_append_left _ (List.mem_append_left _ (List.mem_append_left _ (List.mem_append_left _ (List.mem_append_right _ (h))))))
set_option maxHeartbeats 4000000 in
set_option maxRecDepth 100000 in
theorem lX5_findOrder_L16 (l : Launch) (G : GT) {p : Program} {e : Env} {s : State} {m : MethodId} {args : Array Value} {below : List Frame} {meth : Method} {c : Code} (F : Fx p s m args meth c cX5_findOrder 2 wsX5_findOrder RX5 (some .boolean) G) (r : Int32) (μ' : Mem) : ∀ (fuel : Nat), ∀ (x1 : Int32) (μ : Mem) (H : Heap) (locs : List Loc) (ls : Array Slot), Hh G μ H → va_S (gA G) s.heap H locs → lv_has ls 2 [(0, .ref (ga G 0)), (1, .int x1)] → fX5_findOrder_L16 fuel x1 μ = some (r, μ') → W p l e rmX5_findOrder s m args below meth c H locs 0 0 (MQ below (Qg G (some (.int r)) μ') args s 0 0 (gA G)) (F0 m 16 ls []) := by
  intro fuel
  induction fuel with
  | zero =>
    intro x1 μ H locs ls hP hS hl hf
    exact absurd hf (by intro h; cases h)
  | succ fuel ih16 =>
    intro x1 μ H locs ls hP hS hl hf
    have hf : sX5_findOrder_L16 (fX5_findOrder_L16 fuel) x1 μ = some (r, μ') := hf
    unfold sX5_findOrder_L16 at hf
    refine lv_iload_n F.1.1 F.1.2.1 dX5_findOrder_16 rfl (lv_at hl 1 rfl) ?_
    refine lv_sipush (v := (720 : Int32)) F.1.1 F.1.2.1 dX5_findOrder_17 (by decide) ?_
    refine jc_ge (tgt := 50) F dX5_findOrder_20 (by decide) hf (fun hf => ?_) (fun hf => ?_)
    · refine lv_iconst (v := (0 : Int32)) F.1.1 F.1.2.1 dX5_findOrder_50 (by decide) ?_
      exact retC F hP hS dX5_findOrder_51 (by decide) hf
    · refine lv_aload_n F.1.1 F.1.2.1 dX5_findOrder_23 rfl (lv_at hl 0 rfl) ?_
      obtain ⟨r_6, μ_4, hc_5, hf⟩ := bnd_some hf
      refine rV1 (R := rmX5_findOrder) (As := []) (rest := []) F hP hS hl (mX5_fitsInOrder l G F.2.2.2.2  _ _ _ hc_5) gX5_findOrder_X5_fitsInOrder rfl hdX5_fitsInOrder rfl rfl rfl ⟨Nat.le_of_ble_eq_true rfl, Nat.le_of_ble_eq_true rfl⟩ (by decide) rfl rfl rfl (Nat.le_of_ble_eq_true rfl) ⟨Nat.le_of_ble_eq_true rfl, Nat.le_of_ble_eq_true rfl⟩ dX5_findOrder_24 (fun H locs hP hS => ?_)
      refine jz_eq (tgt := 32) F dX5_findOrder_27 (by decide) hf (fun hf => ?_) (fun hf => ?_)
      · refine lv_aload_n F.1.1 F.1.2.1 dX5_findOrder_32 rfl (lv_at hl 0 rfl) ?_
        refine gt_5_3 F hP 0 rfl inX5_findOrder_5 kX5_findOrder_31 dX5_findOrder_33 ?_
        obtain ⟨r_9, μ_7, hc_8, hf⟩ := bnd_some hf
        refine rV1 (R := rmX5_findOrder) (As := []) (rest := []) F hP hS hl (mX1_next l G F.2.2.2.2  _ _ _ hc_8) gX5_findOrder_X1_next rfl hdX1_next rfl rfl rfl ⟨Nat.le_of_ble_eq_true rfl, Nat.le_of_ble_eq_true rfl⟩ (by decide) rfl rfl rfl (Nat.le_of_ble_eq_true rfl) ⟨Nat.le_of_ble_eq_true rfl, Nat.le_of_ble_eq_true rfl⟩ dX5_findOrder_36 (fun H locs hP hS => ?_)
        refine jz_ne (tgt := 44) F dX5_findOrder_39 (by decide) hf (fun hf => ?_) (fun hf => ?_)
        · refine top_n hf (fun y_10 ey_10 hf => ?_)
          refine lv_iinc (v := y_10) (lv' := [(1, .int y_10), (0, .ref (ga G 0))]) F.1.1 F.1.2.1 dX5_findOrder_44 hl (k := 1) rfl ey_10 (by decide) rfl (fun ls hl => ?_)
          refine lv_goto (tgt := 16) F.1.1 F.1.2.1 dX5_findOrder_47 (by decide) ?_
          exact ih16 y_10 μ_7 H locs ls hP hS (lv_sub hl [1, 0] rfl) hf
        · refine lv_iconst (v := (0 : Int32)) F.1.1 F.1.2.1 dX5_findOrder_42 (by decide) ?_
          exact retC F hP hS dX5_findOrder_43 (by decide) hf
      · refine lv_iconst (v := (1 : Int32)) F.1.1 F.1.2.1 dX5_findOrder_30 (by decide) ?_
        exact retC F hP hS dX5_findOrder_31 (by decide) hf
set_option maxHeartbeats 4000000 in
set_option maxRecDepth 100000 in
theorem mX5_findOrder (l : Launch) (G : GT) (hG : GD G) (μ : Mem) (r : Int32) (μ' : Mem) (hf : fX5_findOrder μ = some (r, μ')) : Ct l yX5_findOrder wsX5_findOrder rmX5_findOrder G [.ref (ga G 0)] μ (some (.int r)) μ' := by
  refine Ct.of (cc := cX5_findOrder) (maxL := 2) (ret := (some .boolean)) (own := RX5) hG (by decide) rfl rfl (Nat.le_of_ble_eq_true rfl) ?_
  intro p e s m args below meth c ls H locs F hl hP hS
  have hl : lv_has ls 2 [(0, .ref (ga G 0))] := hl
  unfold fX5_findOrder at hf
  refine lv_aload_n F.1.1 F.1.2.1 dX5_findOrder_0 rfl (lv_at hl 0 rfl) ?_
  refine gt_5_3 F hP 0 rfl inX5_findOrder_5 kX5_findOrder_31 dX5_findOrder_1 ?_
  refine lv_aload_n F.1.1 F.1.2.1 dX5_findOrder_4 rfl (lv_at hl 0 rfl) ?_
  refine gt_5_0 F hP 0 rfl inX5_findOrder_5 kX5_findOrder_12 dX5_findOrder_5 ?_
  refine gt_4_1 F hP 1 rfl inX5_findOrder_4 kX5_findOrder_76 dX5_findOrder_8 ?_
  obtain ⟨u_3, μ_1, hc_2, hf⟩ := bnd_some hf
  refine rVv (R := rmX5_findOrder) (As := [.int (μ 1 1)]) (rest := []) F hP hS hl (mX1_begin l G F.2.2.2.2 (μ 1 1) _ _ _ hc_2) gX5_findOrder_X1_begin rfl hdX1_begin rfl rfl rfl ⟨Nat.le_of_ble_eq_true rfl, Nat.le_of_ble_eq_true rfl⟩ (by decide) rfl rfl rfl (Nat.le_of_ble_eq_true rfl) ⟨Nat.le_of_ble_eq_true rfl, Nat.le_of_ble_eq_true rfl⟩ dX5_findOrder_11 (fun H locs hP hS => ?_)
  refine lv_iconst (v := (0 : Int32)) F.1.1 F.1.2.1 dX5_findOrder_14 (by decide) ?_
  refine lv_istore_n (lv' := [(1, .int (0 : Int32)), (0, .ref (ga G 0))]) F.1.1 F.1.2.1 dX5_findOrder_15 rfl hl (by decide) rfl (fun ls hl => ?_)
  exact lX5_findOrder_L16 l G F _ _ FU (0 : Int32) μ_1 H locs ls hP hS (lv_sub hl [1, 0] rfl) hf
abbrev rmX5_orders : Room := { frames := 6, cells := 0, slots := 0, locals := 134 }
theorem hdX5_orders : yX5_orders.cls = RX5 ∧ yX5_orders.cls ≠ "java/lang/invoke/MethodHandle" ∧ yX5_orders.cls ≠ "java/lang/invoke/VarHandle" ∧ (parseMethodDescriptor yX5_orders.desc).map (fun d => d.parameters.length) = some 1 := by decide +kernel
theorem kX5_orders_12 : Cond.fieldLink RX5 12 "PaperLayers" "now" "LPaperLayers$Wall;" ∈ wsX5_orders := List.mem_cons_of_mem _ (List.mem_append_left _ (List.mem_append_left _ (List.mem_append_left _ (List.mem_append_left _ (List.mem_append_left _ (List.mem_append_left _ (List.mem_of_getElem? (i := 0) rfl)))))))
theorem kX5_orders_31 : Cond.fieldLink RX5 31 "PaperLayers" "order" "LPaperLayers$Order;" ∈ wsX5_orders := List.mem_cons_of_mem _ (List.mem_append_left _ (List.mem_append_left _ (List.mem_append_left _ (List.mem_append_left _ (List.mem_append_left _ (List.mem_append_left _ (List.mem_of_getElem? (i := 2) rfl)))))))
theorem kX5_orders_76 : Cond.fieldLink RX5 76 "PaperLayers$Wall" "count" "I" ∈ wsX5_orders := List.mem_cons_of_mem _ (List.mem_append_left _ (List.mem_append_left _ (List.mem_append_left _ (List.mem_append_left _ (List.mem_append_left _ (List.mem_append_left _ (List.mem_of_getElem? (i := 1) rfl)))))))
theorem inX5_orders_4 : ∀ w ∈ wsX40, w ∈ wsX5_orders := fun _ h => List.mem_cons_of_mem _ (List.mem_append_left _ (List.mem_append_left _ (List.mem_append_left _ (List.mem_append_right _ (h)))))
theorem inX5_orders_5 : ∀ w ∈ wsX50, w ∈ wsX5_orders := fun _ h => List.mem_cons_of_mem _ (List.mem_append_left _ (List.mem_append_left _ (List.mem_append_left _ (List.mem_append_left _ (List.mem_append_right _ (h))))))
set_option maxHeartbeats 4000000 in
set_option maxRecDepth 100000 in
theorem mX5_orders (l : Launch) (G : GT) (hG : GD G) (x1 : Int32) (μ : Mem) (r : Int32) (μ' : Mem) (hf : fX5_orders x1 μ = some (r, μ')) : Ct l yX5_orders wsX5_orders rmX5_orders G [.ref (ga G 0), .int x1] μ (some (.int r)) μ' := by
  refine Ct.of (cc := cX5_orders) (maxL := 2) (ret := (some .int)) (own := RX5) hG (by decide) rfl rfl (Nat.le_of_ble_eq_true rfl) ?_
  intro p e s m args below meth c ls H locs F hl hP hS
  have hl : lv_has ls 2 [(0, .ref (ga G 0)), (1, .int x1)] := hl
  unfold fX5_orders at hf
  refine lv_iload_n F.1.1 F.1.2.1 dX5_orders_0 rfl (lv_at hl 1 rfl) ?_
  refine lv_iconst (v := (-1 : Int32)) F.1.1 F.1.2.1 dX5_orders_1 (by decide) ?_
  refine jc_lt (tgt := 11) F dX5_orders_2 (by decide) hf (fun hf => ?_) (fun hf => ?_)
  · refine lv_bipush (v := (-2 : Int32)) F.1.1 F.1.2.1 dX5_orders_11 (by decide) ?_
    exact retI F hP hS dX5_orders_13 hf
  · refine lv_iload_n F.1.1 F.1.2.1 dX5_orders_5 rfl (lv_at hl 1 rfl) ?_
    refine lv_bipush (v := (6 : Int32)) F.1.1 F.1.2.1 dX5_orders_6 (by decide) ?_
    refine jc_lt (tgt := 14) F dX5_orders_8 (by decide) hf (fun hf => ?_) (fun hf => ?_)
    · refine lv_aload_n F.1.1 F.1.2.1 dX5_orders_14 rfl (lv_at hl 0 rfl) ?_
      refine gt_5_0 F hP 0 rfl inX5_orders_5 kX5_orders_12 dX5_orders_15 ?_
      obtain ⟨r_3, μ_1, hc_2, hf⟩ := bnd_some hf
      refine rV1 (R := rmX5_orders) (As := []) (rest := []) F hP hS hl (mX4_stands l G F.2.2.2.2 1 rfl _ _ _ hc_2) gX5_orders_X4_stands rfl hdX4_stands rfl rfl rfl ⟨Nat.le_of_ble_eq_true rfl, Nat.le_of_ble_eq_true rfl⟩ (by decide) rfl rfl rfl (Nat.le_of_ble_eq_true rfl) ⟨Nat.le_of_ble_eq_true rfl, Nat.le_of_ble_eq_true rfl⟩ dX5_orders_18 (fun H locs hP hS => ?_)
      refine jz_ne (tgt := 27) F dX5_orders_21 (by decide) hf (fun hf => ?_) (fun hf => ?_)
      · refine lv_iload_n F.1.1 F.1.2.1 dX5_orders_27 rfl (lv_at hl 1 rfl) ?_
        refine lv_iconst (v := (-1 : Int32)) F.1.1 F.1.2.1 dX5_orders_28 (by decide) ?_
        refine jc_ne (tgt := 37) F dX5_orders_29 (by decide) hf (fun hf => ?_) (fun hf => ?_)
        · refine lv_iload_n F.1.1 F.1.2.1 dX5_orders_37 rfl (lv_at hl 1 rfl) ?_
          refine lv_aload_n F.1.1 F.1.2.1 dX5_orders_38 rfl (lv_at hl 0 rfl) ?_
          refine gt_5_0 F hP 0 rfl inX5_orders_5 kX5_orders_12 dX5_orders_39 ?_
          refine gt_4_1 F hP 1 rfl inX5_orders_4 kX5_orders_76 dX5_orders_42 ?_
          refine jc_ge (tgt := 66) F dX5_orders_45 (by decide) hf (fun hf => ?_) (fun hf => ?_)
          · refine lv_bipush (v := (-9 : Int32)) F.1.1 F.1.2.1 dX5_orders_66 (by decide) ?_
            exact retI F hP hS dX5_orders_68 hf
          · refine lv_aload_n F.1.1 F.1.2.1 dX5_orders_48 rfl (lv_at hl 0 rfl) ?_
            obtain ⟨r_6, μ_4, hc_5, hf⟩ := bnd_some hf
            refine rV1 (R := rmX5_orders) (As := []) (rest := []) F hP hS hl (mX5_findOrder l G F.2.2.2.2  _ _ _ hc_5) gX5_orders_X5_findOrder rfl hdX5_findOrder rfl rfl rfl ⟨Nat.le_of_ble_eq_true rfl, Nat.le_of_ble_eq_true rfl⟩ (by decide) rfl rfl rfl (Nat.le_of_ble_eq_true rfl) ⟨Nat.le_of_ble_eq_true rfl, Nat.le_of_ble_eq_true rfl⟩ dX5_orders_49 (fun H locs hP hS => ?_)
            refine jz_eq (tgt := 66) F dX5_orders_52 (by decide) hf (fun hf => ?_) (fun hf => ?_)
            · refine lv_bipush (v := (-9 : Int32)) F.1.1 F.1.2.1 dX5_orders_66 (by decide) ?_
              exact retI F hP hS dX5_orders_68 hf
            · refine lv_aload_n F.1.1 F.1.2.1 dX5_orders_55 rfl (lv_at hl 0 rfl) ?_
              refine gt_5_3 F hP 0 rfl inX5_orders_5 kX5_orders_31 dX5_orders_56 ?_
              refine lv_iload_n F.1.1 F.1.2.1 dX5_orders_59 rfl (lv_at hl 1 rfl) ?_
              obtain ⟨r_9, μ_7, hc_8, hf⟩ := bnd_some hf
              refine rV1 (R := rmX5_orders) (As := [.int x1]) (rest := []) F hP hS hl (mX1_layerIn l G F.2.2.2.2 x1 _ _ _ hc_8) gX5_orders_X1_layerIn rfl hdX1_layerIn rfl rfl rfl ⟨Nat.le_of_ble_eq_true rfl, Nat.le_of_ble_eq_true rfl⟩ (by decide) rfl rfl rfl (Nat.le_of_ble_eq_true rfl) ⟨Nat.le_of_ble_eq_true rfl, Nat.le_of_ble_eq_true rfl⟩ dX5_orders_60 (fun H locs hP hS => ?_)
              refine lv_goto (tgt := 68) F.1.1 F.1.2.1 dX5_orders_63 (by decide) ?_
              exact retI F hP hS dX5_orders_68 hf
        · refine lv_aload_n F.1.1 F.1.2.1 dX5_orders_32 rfl (lv_at hl 0 rfl) ?_
          obtain ⟨r_12, μ_10, hc_11, hf⟩ := bnd_some hf
          refine rV1 (R := rmX5_orders) (As := []) (rest := []) F hP hS hl (mX5_countOrders l G F.2.2.2.2  _ _ _ hc_11) gX5_orders_X5_countOrders rfl hdX5_countOrders rfl rfl rfl ⟨Nat.le_of_ble_eq_true rfl, Nat.le_of_ble_eq_true rfl⟩ (by decide) rfl rfl rfl (Nat.le_of_ble_eq_true rfl) ⟨Nat.le_of_ble_eq_true rfl, Nat.le_of_ble_eq_true rfl⟩ dX5_orders_33 (fun H locs hP hS => ?_)
          exact retI F hP hS dX5_orders_36 hf
      · refine lv_bipush (v := (-3 : Int32)) F.1.1 F.1.2.1 dX5_orders_24 (by decide) ?_
        exact retI F hP hS dX5_orders_26 hf
    · refine lv_bipush (v := (-2 : Int32)) F.1.1 F.1.2.1 dX5_orders_11 (by decide) ?_
      exact retI F hP hS dX5_orders_13 hf
abbrev rmX4_change : Room := { frames := 1, cells := 0, slots := 0, locals := 21 }
theorem hdX4_change : yX4_change.cls = RX4 ∧ yX4_change.cls ≠ "java/lang/invoke/MethodHandle" ∧ yX4_change.cls ≠ "java/lang/invoke/VarHandle" ∧ (parseMethodDescriptor yX4_change.desc).map (fun d => d.parameters.length) = some 3 := by decide +kernel
theorem kX4_change_32 : Cond.fieldLink RX4 32 "PaperLayers$Layer" "kind" "I" ∈ wsX4_change := List.mem_cons_of_mem _ (List.mem_append_left _ (List.mem_append_left _ (List.mem_of_getElem? (i := 0) rfl)))
theorem kX4_change_43 : Cond.fieldLink RX4 43 "PaperLayers$Layer" "advice" "I" ∈ wsX4_change := List.mem_cons_of_mem _ (List.mem_append_left _ (List.mem_append_left _ (List.mem_of_getElem? (i := 2) rfl)))
theorem kX4_change_82 : Cond.fieldLink RX4 82 "PaperLayers$Layer" "hold" "I" ∈ wsX4_change := List.mem_cons_of_mem _ (List.mem_append_left _ (List.mem_append_left _ (List.mem_of_getElem? (i := 1) rfl)))
theorem inX4_change_0 : ∀ w ∈ wsX00, w ∈ wsX4_change := fun _ h => List.mem_cons_of_mem _ (List.mem_append_left _ (List.mem_append_right _ (h)))
set_option maxHeartbeats 4000000 in
set_option maxRecDepth 100000 in
theorem mX4_change (l : Launch) (G : GT) (hG : GD G) (w : Nat) (sw : sh w = 4) (x1 : Int32) (x2 : Int32) (x3 : Int32) (μ : Mem) (r : Unit) (μ' : Mem) (hf : fX4_change w x1 x2 x3 μ = some (r, μ')) : Ct l yX4_change wsX4_change rmX4_change G [.ref (ga G w), .int x1, .int x2, .int x3] μ none μ' := by
  refine Ct.of (cc := cX4_change) (maxL := 5) (ret := none) (own := RX4) hG (by decide) rfl rfl (Nat.le_of_ble_eq_true rfl) ?_
  intro p e s m args below meth c ls H locs F hl hP hS
  have hl : lv_has ls 5 [(0, .ref (ga G w)), (1, .int x1), (2, .int x2), (3, .int x3)] := hl
  unfold fX4_change at hf
  refine lv_aload_n F.1.1 F.1.2.1 dX4_change_0 rfl (lv_at hl 0 rfl) ?_
  refine lv_iload_n F.1.1 F.1.2.1 dX4_change_1 rfl (lv_at hl 1 rfl) ?_
  obtain ⟨r_3, μ_1, hc_2, hf⟩ := bnd_some hf
  refine rV1 (R := rmX4_change) (As := [.int x1]) (rest := []) F hP hS hl (mX4_layerAt l G F.2.2.2.2 w sw x1 _ _ _ hc_2) gX4_change_X4_layerAt sw hdX4_layerAt rfl rfl rfl ⟨Nat.le_of_ble_eq_true rfl, Nat.le_of_ble_eq_true rfl⟩ (by decide) rfl rfl rfl (Nat.le_of_ble_eq_true rfl) ⟨Nat.le_of_ble_eq_true rfl, Nat.le_of_ble_eq_true rfl⟩ dX4_change_2 (fun H locs hP hS => ?_)
  refine top_o hf (fun hf => ?_) (fun i_4 ho_5 hf => ?_)
  · refine lv_astoreN (lv' := [(4, .null), (0, .ref (ga G w)), (1, .int x1), (2, .int x2), (3, .int x3)]) F.1.1 F.1.2.1 dX4_change_5 hl (by decide) rfl (fun ls hl => ?_)
    refine lv_aloadN F.1.1 F.1.2.1 dX4_change_7 (lv_at hl 0 rfl) ?_
    refine lv_ifnonnullN F.1.1 F.1.2.1 dX4_change_9 ?_
    exact retV F hP hS dX4_change_12 hf
  · have s_6 := shX4_layerAt_r sw (ho_5 ▸ hc_2)
    refine lv_astore (lv' := [(4, .ref (ga G i_4)), (0, .ref (ga G w)), (1, .int x1), (2, .int x2), (3, .int x3)]) F.1.1 F.1.2.1 dX4_change_5 hl (by decide) rfl (fun ls hl => ?_)
    refine lv_aload F.1.1 F.1.2.1 dX4_change_7 (lv_at hl 0 rfl) ?_
    refine lv_ifnonnull (tgt := 13) F.1.1 F.1.2.1 dX4_change_9 (by decide) ?_
    refine lv_iload_n F.1.1 F.1.2.1 dX4_change_13 rfl (lv_at hl 3 rfl) ?_
    refine split_sw (k := (0 : Int32)) hf (fun hk0 hf => ?_) (fun hn0 hf => ?_)
    · refine lv_lookup (tgt := 40) (off := 26) F.1.1 F.1.2.1 dX4_change_14 (by decide) (by rw [hk0]; decide) (by decide) ?_
      refine lv_aload F.1.1 F.1.2.1 dX4_change_40 (lv_at hl 0 rfl) ?_
      refine lv_iload_n F.1.1 F.1.2.1 dX4_change_42 rfl (lv_at hl 4 rfl) ?_
      refine pt_0_0 F hP hS i_4 s_6 inX4_change_0 kX4_change_32 dX4_change_43 hf (fun μ_7 H locs hP hS hf => ?_)
      refine lv_goto (tgt := 64) F.1.1 F.1.2.1 dX4_change_46 (by decide) ?_
      exact retV F hP hS dX4_change_64 hf
    refine split_sw (k := (1 : Int32)) hf (fun hk1 hf => ?_) (fun hn1 hf => ?_)
    · refine lv_lookup (tgt := 49) (off := 35) F.1.1 F.1.2.1 dX4_change_14 (by decide) (by rw [hk1]; decide) (by decide) ?_
      refine lv_aload F.1.1 F.1.2.1 dX4_change_49 (lv_at hl 0 rfl) ?_
      refine lv_iload_n F.1.1 F.1.2.1 dX4_change_51 rfl (lv_at hl 4 rfl) ?_
      refine pt_0_1 F hP hS i_4 s_6 inX4_change_0 kX4_change_82 dX4_change_52 hf (fun μ_8 H locs hP hS hf => ?_)
      refine lv_goto (tgt := 64) F.1.1 F.1.2.1 dX4_change_55 (by decide) ?_
      exact retV F hP hS dX4_change_64 hf
    refine lv_lookup (tgt := 58) (off := 44) F.1.1 F.1.2.1 dX4_change_14 (by decide) (by refine (lv_osw hn0 (by decide)).trans ?_; refine (lv_osw hn1 (by decide)).trans ?_; rfl) (by decide) ?_
    refine lv_aload F.1.1 F.1.2.1 dX4_change_58 (lv_at hl 0 rfl) ?_
    refine lv_iload_n F.1.1 F.1.2.1 dX4_change_60 rfl (lv_at hl 4 rfl) ?_
    refine pt_0_2 F hP hS i_4 s_6 inX4_change_0 kX4_change_43 dX4_change_61 hf (fun μ_9 H locs hP hS hf => ?_)
    exact retV F hP hS dX4_change_64 hf
abbrev rmX5_fitting : Room := { frames := 5, cells := 0, slots := 0, locals := 111 }
theorem hdX5_fitting : yX5_fitting.cls = RX5 ∧ yX5_fitting.cls ≠ "java/lang/invoke/MethodHandle" ∧ yX5_fitting.cls ≠ "java/lang/invoke/VarHandle" ∧ (parseMethodDescriptor yX5_fitting.desc).map (fun d => d.parameters.length) = some 3 := by decide +kernel
theorem kX5_fitting_12 : Cond.fieldLink RX5 12 "PaperLayers" "now" "LPaperLayers$Wall;" ∈ wsX5_fitting := List.mem_cons_of_mem _ (List.mem_append_left _ (List.mem_append_left _ (List.mem_append_left _ (List.mem_append_left _ (List.mem_append_left _ (List.mem_of_getElem? (i := 1) rfl))))))
theorem kX5_fitting_18 : Cond.fieldLink RX5 18 "PaperLayers" "trial" "LPaperLayers$Wall;" ∈ wsX5_fitting := List.mem_cons_of_mem _ (List.mem_append_left _ (List.mem_append_left _ (List.mem_append_left _ (List.mem_append_left _ (List.mem_append_left _ (List.mem_of_getElem? (i := 0) rfl))))))
theorem kX5_fitting_24 : Cond.fieldLink RX5 24 "PaperLayers" "readings" "LPaperLayers$Readings;" ∈ wsX5_fitting := List.mem_cons_of_mem _ (List.mem_append_left _ (List.mem_append_left _ (List.mem_append_left _ (List.mem_append_left _ (List.mem_append_left _ (List.mem_of_getElem? (i := 2) rfl))))))
theorem inX5_fitting_5 : ∀ w ∈ wsX50, w ∈ wsX5_fitting := fun _ h => List.mem_cons_of_mem _ (List.mem_append_left _ (List.mem_append_left _ (List.mem_append_left _ (List.mem_append_right _ (h)))))
set_option maxHeartbeats 4000000 in
set_option maxRecDepth 100000 in
theorem lX5_fitting_L6 (l : Launch) (G : GT) {p : Program} {e : Env} {s : State} {m : MethodId} {args : Array Value} {below : List Frame} {meth : Method} {c : Code} (F : Fx p s m args meth c cX5_fitting 6 wsX5_fitting RX5 (some .int) G) (x1 : Int32) (x2 : Int32) (x3 : Int32) (r : Int32) (μ' : Mem) : ∀ (fuel : Nat), ∀ (x4 : Int32) (x5 : Int32) (μ : Mem) (H : Heap) (locs : List Loc) (ls : Array Slot), Hh G μ H → va_S (gA G) s.heap H locs → lv_has ls 6 [(0, .ref (ga G 0)), (1, .int x1), (2, .int x2), (3, .int x3), (4, .int x4), (5, .int x5)] → fX5_fitting_L6 x1 x2 x3 fuel x4 x5 μ = some (r, μ') → W p l e rmX5_fitting s m args below meth c H locs 0 0 (MQ below (Qg G (some (.int r)) μ') args s 0 0 (gA G)) (F0 m 6 ls []) := by
  intro fuel
  induction fuel with
  | zero =>
    intro x4 x5 μ H locs ls hP hS hl hf
    exact absurd hf (by intro h; cases h)
  | succ fuel ih6 =>
    intro x4 x5 μ H locs ls hP hS hl hf
    have hf : sX5_fitting_L6 (fX5_fitting_L6 x1 x2 x3 fuel) x1 x2 x3 x4 x5 μ = some (r, μ') := hf
    unfold sX5_fitting_L6 at hf
    refine lv_iload F.1.1 F.1.2.1 dX5_fitting_6 (lv_at hl 5 rfl) ?_
    refine lv_iload_n F.1.1 F.1.2.1 dX5_fitting_8 rfl (lv_at hl 3 rfl) ?_
    refine jc_gt (tgt := 63) F dX5_fitting_9 (by decide) hf (fun hf => ?_) (fun hf => ?_)
    · refine lv_iload F.1.1 F.1.2.1 dX5_fitting_63 (lv_at hl 4 rfl) ?_
      exact retI F hP hS dX5_fitting_65 hf
    · refine lv_aload_n F.1.1 F.1.2.1 dX5_fitting_12 rfl (lv_at hl 0 rfl) ?_
      refine gt_5_1 F hP 0 rfl inX5_fitting_5 kX5_fitting_18 dX5_fitting_13 ?_
      refine lv_aload_n F.1.1 F.1.2.1 dX5_fitting_16 rfl (lv_at hl 0 rfl) ?_
      refine gt_5_0 F hP 0 rfl inX5_fitting_5 kX5_fitting_12 dX5_fitting_17 ?_
      obtain ⟨u_3, μ_1, hc_2, hf⟩ := bnd_some hf
      refine rVv (R := rmX5_fitting) (As := [.ref (ga G 1)]) (rest := []) F hP hS hl (mX4_become l G F.2.2.2.2 9 rfl 1 rfl _ _ _ hc_2) gX5_fitting_X4_become rfl hdX4_become rfl rfl rfl ⟨Nat.le_of_ble_eq_true rfl, Nat.le_of_ble_eq_true rfl⟩ (by decide) rfl rfl rfl (Nat.le_of_ble_eq_true rfl) ⟨Nat.le_of_ble_eq_true rfl, Nat.le_of_ble_eq_true rfl⟩ dX5_fitting_20 (fun H locs hP hS => ?_)
      refine lv_aload_n F.1.1 F.1.2.1 dX5_fitting_23 rfl (lv_at hl 0 rfl) ?_
      refine gt_5_1 F hP 0 rfl inX5_fitting_5 kX5_fitting_18 dX5_fitting_24 ?_
      refine lv_iload_n F.1.1 F.1.2.1 dX5_fitting_27 rfl (lv_at hl 1 rfl) ?_
      refine lv_iload_n F.1.1 F.1.2.1 dX5_fitting_28 rfl (lv_at hl 2 rfl) ?_
      refine lv_iload F.1.1 F.1.2.1 dX5_fitting_29 (lv_at hl 5 rfl) ?_
      obtain ⟨u_6, μ_4, hc_5, hf⟩ := bnd_some hf
      refine rVv (R := rmX5_fitting) (As := [.int x1, .int x2, .int x5]) (rest := []) F hP hS hl (mX4_change l G F.2.2.2.2 9 rfl x1 x2 x5 _ _ _ hc_5) gX5_fitting_X4_change rfl hdX4_change rfl rfl rfl ⟨Nat.le_of_ble_eq_true rfl, Nat.le_of_ble_eq_true rfl⟩ (by decide) rfl rfl rfl (Nat.le_of_ble_eq_true rfl) ⟨Nat.le_of_ble_eq_true rfl, Nat.le_of_ble_eq_true rfl⟩ dX5_fitting_31 (fun H locs hP hS => ?_)
      refine lv_aload_n F.1.1 F.1.2.1 dX5_fitting_34 rfl (lv_at hl 0 rfl) ?_
      refine gt_5_2 F hP 0 rfl inX5_fitting_5 kX5_fitting_24 dX5_fitting_35 ?_
      refine lv_aload_n F.1.1 F.1.2.1 dX5_fitting_38 rfl (lv_at hl 0 rfl) ?_
      refine gt_5_1 F hP 0 rfl inX5_fitting_5 kX5_fitting_18 dX5_fitting_39 ?_
      obtain ⟨r_9, μ_7, hc_8, hf⟩ := bnd_some hf
      refine rV1 (R := rmX5_fitting) (As := [.ref (ga G 9)]) (rest := []) F hP hS hl (mX2_agreeWith l G F.2.2.2.2 9 rfl _ _ _ hc_8) gX5_fitting_X2_agreeWith rfl hdX2_agreeWith rfl rfl rfl ⟨Nat.le_of_ble_eq_true rfl, Nat.le_of_ble_eq_true rfl⟩ (by decide) rfl rfl rfl (Nat.le_of_ble_eq_true rfl) ⟨Nat.le_of_ble_eq_true rfl, Nat.le_of_ble_eq_true rfl⟩ dX5_fitting_42 (fun H locs hP hS => ?_)
      refine jz_eq (tgt := 57) F dX5_fitting_45 (by decide) hf (fun hf => ?_) (fun hf => ?_)
      · refine top_n hf (fun y_10 ey_10 hf => ?_)
        refine lv_iinc (v := y_10) (lv' := [(5, .int y_10), (0, .ref (ga G 0)), (1, .int x1), (2, .int x2), (3, .int x3), (4, .int x4)]) F.1.1 F.1.2.1 dX5_fitting_57 hl (k := 5) rfl ey_10 (by decide) rfl (fun ls hl => ?_)
        refine lv_goto (tgt := 6) F.1.1 F.1.2.1 dX5_fitting_60 (by decide) ?_
        exact ih6 x4 y_10 μ_7 H locs ls hP hS (lv_sub hl [1, 2, 3, 4, 5, 0] rfl) hf
      · refine lv_iload F.1.1 F.1.2.1 dX5_fitting_48 (lv_at hl 4 rfl) ?_
        refine lv_iconst (v := (1 : Int32)) F.1.1 F.1.2.1 dX5_fitting_50 (by decide) ?_
        refine lv_iload F.1.1 F.1.2.1 dX5_fitting_51 (lv_at hl 5 rfl) ?_
        refine lv_ishl F.1.1 F.1.2.1 dX5_fitting_53 ?_
        refine lv_ior F.1.1 F.1.2.1 dX5_fitting_54 ?_
        refine top_i hf (fun y_11 hf => ?_)
        refine lv_istore (lv' := [(4, .int y_11), (0, .ref (ga G 0)), (1, .int x1), (2, .int x2), (3, .int x3), (5, .int x5)]) F.1.1 F.1.2.1 dX5_fitting_55 hl (by decide) rfl (fun ls hl => ?_)
        refine top_n hf (fun y_12 ey_12 hf => ?_)
        refine lv_iinc (v := y_12) (lv' := [(5, .int y_12), (4, .int y_11), (0, .ref (ga G 0)), (1, .int x1), (2, .int x2), (3, .int x3)]) F.1.1 F.1.2.1 dX5_fitting_57 hl (k := 5) rfl ey_12 (by decide) rfl (fun ls hl => ?_)
        refine lv_goto (tgt := 6) F.1.1 F.1.2.1 dX5_fitting_60 (by decide) ?_
        exact ih6 y_11 y_12 μ_7 H locs ls hP hS (lv_sub hl [2, 3, 4, 5, 1, 0] rfl) hf
set_option maxHeartbeats 4000000 in
set_option maxRecDepth 100000 in
theorem mX5_fitting (l : Launch) (G : GT) (hG : GD G) (x1 : Int32) (x2 : Int32) (x3 : Int32) (μ : Mem) (r : Int32) (μ' : Mem) (hf : fX5_fitting x1 x2 x3 μ = some (r, μ')) : Ct l yX5_fitting wsX5_fitting rmX5_fitting G [.ref (ga G 0), .int x1, .int x2, .int x3] μ (some (.int r)) μ' := by
  refine Ct.of (cc := cX5_fitting) (maxL := 6) (ret := (some .int)) (own := RX5) hG (by decide) rfl rfl (Nat.le_of_ble_eq_true rfl) ?_
  intro p e s m args below meth c ls H locs F hl hP hS
  have hl : lv_has ls 6 [(0, .ref (ga G 0)), (1, .int x1), (2, .int x2), (3, .int x3)] := hl
  unfold fX5_fitting at hf
  refine lv_iconst (v := (0 : Int32)) F.1.1 F.1.2.1 dX5_fitting_0 (by decide) ?_
  refine lv_istore (lv' := [(4, .int (0 : Int32)), (0, .ref (ga G 0)), (1, .int x1), (2, .int x2), (3, .int x3)]) F.1.1 F.1.2.1 dX5_fitting_1 hl (by decide) rfl (fun ls hl => ?_)
  refine lv_iconst (v := (0 : Int32)) F.1.1 F.1.2.1 dX5_fitting_3 (by decide) ?_
  refine lv_istore (lv' := [(5, .int (0 : Int32)), (4, .int (0 : Int32)), (0, .ref (ga G 0)), (1, .int x1), (2, .int x2), (3, .int x3)]) F.1.1 F.1.2.1 dX5_fitting_4 hl (by decide) rfl (fun ls hl => ?_)
  exact lX5_fitting_L6 l G F x1 x2 x3 _ _ FU (0 : Int32) (0 : Int32) μ H locs ls hP hS (lv_sub hl [2, 3, 4, 5, 1, 0] rfl) hf
