abbrev rmX4_stands : Room := { frames := 0, cells := 0, slots := 0, locals := 0 }
theorem hdX4_stands : yX4_stands.cls = RX4 ∧ yX4_stands.cls ≠ "java/lang/invoke/MethodHandle" ∧ yX4_stands.cls ≠ "java/lang/invoke/VarHandle" ∧ (parseMethodDescriptor yX4_stands.desc).map (fun d => d.parameters.length) = some 0 := by decide +kernel
theorem kX4_stands_18 : Cond.fieldLink RX4 18 "PaperLayers$Wall" "count" "I" ∈ wsX4_stands := List.mem_cons_of_mem _ (List.mem_append_left _ (List.mem_of_getElem? (i := 0) rfl))
theorem inX4_stands_4 : ∀ w ∈ wsX40, w ∈ wsX4_stands := fun _ h => List.mem_cons_of_mem _ (List.mem_append_right _ (h))
set_option maxHeartbeats 4000000 in
set_option maxRecDepth 100000 in
theorem mX4_stands (l : Launch) (G : GT) (hG : GD G) (w : Nat) (sw : sh w = 4) (μ : Mem) (r : Int32) (μ' : Mem) (hf : fX4_stands w μ = some (r, μ')) : Ct l yX4_stands wsX4_stands rmX4_stands G [.ref (ga G w)] μ (some (.int r)) μ' := by
  refine Ct.of (cc := cX4_stands) (maxL := 1) (ret := (some .boolean)) (own := RX4) hG (by decide) rfl rfl (Nat.le_of_ble_eq_true rfl) ?_
  intro p e s m args below meth c ls H locs F hl hP hS
  have hl : lv_has ls 1 [(0, .ref (ga G w))] := hl
  unfold fX4_stands at hf
  refine lv_aload_n F.1.1 F.1.2.1 dX4_stands_0 rfl (lv_at hl 0 rfl) ?_
  refine gt_4_1 F hP w sw inX4_stands_4 kX4_stands_18 dX4_stands_1 ?_
  refine jz_le (tgt := 11) F dX4_stands_4 (by decide) hf (fun hf => ?_) (fun hf => ?_)
  · refine lv_iconst (v := (0 : Int32)) F.1.1 F.1.2.1 dX4_stands_11 (by decide) ?_
    exact retC F hP hS dX4_stands_12 (by decide) hf
  · refine lv_iconst (v := (1 : Int32)) F.1.1 F.1.2.1 dX4_stands_7 (by decide) ?_
    refine lv_goto (tgt := 12) F.1.1 F.1.2.1 dX4_stands_8 (by decide) ?_
    exact retC F hP hS dX4_stands_12 (by decide) hf
abbrev rmX5_heat : Room := { frames := 1, cells := 0, slots := 0, locals := 21 }
theorem hdX5_heat : yX5_heat.cls = RX5 ∧ yX5_heat.cls ≠ "java/lang/invoke/MethodHandle" ∧ yX5_heat.cls ≠ "java/lang/invoke/VarHandle" ∧ (parseMethodDescriptor yX5_heat.desc).map (fun d => d.parameters.length) = some 1 := by decide +kernel
theorem kX5_heat_109 : Cond.fieldLink RX5 109 "PaperLayers$Wall" "warm" "I" ∈ wsX5_heat := List.mem_cons_of_mem _ (List.mem_append_left _ (List.mem_append_left _ (List.mem_of_getElem? (i := 1) rfl)))
theorem kX5_heat_12 : Cond.fieldLink RX5 12 "PaperLayers" "now" "LPaperLayers$Wall;" ∈ wsX5_heat := List.mem_cons_of_mem _ (List.mem_append_left _ (List.mem_append_left _ (List.mem_of_getElem? (i := 0) rfl)))
theorem inX5_heat_4 : ∀ w ∈ wsX40, w ∈ wsX5_heat := fun _ h => List.mem_cons_of_mem _ (List.mem_append_right _ (h))
theorem inX5_heat_5 : ∀ w ∈ wsX50, w ∈ wsX5_heat := fun _ h => List.mem_cons_of_mem _ (List.mem_append_left _ (List.mem_append_right _ (h)))
set_option maxHeartbeats 4000000 in
set_option maxRecDepth 100000 in
theorem mX5_heat (l : Launch) (G : GT) (hG : GD G) (x1 : Int32) (μ : Mem) (r : Int32) (μ' : Mem) (hf : fX5_heat x1 μ = some (r, μ')) : Ct l yX5_heat wsX5_heat rmX5_heat G [.ref (ga G 0), .int x1] μ (some (.int r)) μ' := by
  refine Ct.of (cc := cX5_heat) (maxL := 3) (ret := (some .int)) (own := RX5) hG (by decide) rfl rfl (Nat.le_of_ble_eq_true rfl) ?_
  intro p e s m args below meth c ls H locs F hl hP hS
  have hl : lv_has ls 3 [(0, .ref (ga G 0)), (1, .int x1)] := hl
  unfold fX5_heat at hf
  refine lv_iload_n F.1.1 F.1.2.1 dX5_heat_0 rfl (lv_at hl 1 rfl) ?_
  refine lv_bipush (v := (20 : Int32)) F.1.1 F.1.2.1 dX5_heat_1 (by decide) ?_
  obtain ⟨r_3, μ_1, hc_2, hf⟩ := bnd_some hf
  refine rS1 (R := rmX5_heat) (As := [.int x1, .int (20 : Int32)]) (rest := []) F hP hS hl (mX5_isUpTo l G F.2.2.2.2 x1 (20 : Int32) _ _ _ hc_2) gX5_heat_X5_isUpTo hdX5_isUpTo rfl rfl rfl ⟨Nat.le_of_ble_eq_true rfl, Nat.le_of_ble_eq_true rfl⟩ rfl rfl (Nat.le_of_ble_eq_true rfl) ⟨Nat.le_of_ble_eq_true rfl, Nat.le_of_ble_eq_true rfl⟩ dX5_heat_3 (fun H locs hP hS => ?_)
  refine jz_ne (tgt := 12) F dX5_heat_6 (by decide) hf (fun hf => ?_) (fun hf => ?_)
  · refine lv_aload_n F.1.1 F.1.2.1 dX5_heat_12 rfl (lv_at hl 0 rfl) ?_
    refine gt_5_0 F hP 0 rfl inX5_heat_5 kX5_heat_12 dX5_heat_13 ?_
    obtain ⟨r_6, μ_4, hc_5, hf⟩ := bnd_some hf
    refine rV1 (R := rmX5_heat) (As := []) (rest := []) F hP hS hl (mX4_stands l G F.2.2.2.2 1 rfl _ _ _ hc_5) gX5_heat_X4_stands rfl hdX4_stands rfl rfl rfl ⟨Nat.le_of_ble_eq_true rfl, Nat.le_of_ble_eq_true rfl⟩ (by decide) rfl rfl rfl (Nat.le_of_ble_eq_true rfl) ⟨Nat.le_of_ble_eq_true rfl, Nat.le_of_ble_eq_true rfl⟩ dX5_heat_16 (fun H locs hP hS => ?_)
    refine jz_ne (tgt := 25) F dX5_heat_19 (by decide) hf (fun hf => ?_) (fun hf => ?_)
    · refine lv_aload_n F.1.1 F.1.2.1 dX5_heat_25 rfl (lv_at hl 0 rfl) ?_
      refine gt_5_0 F hP 0 rfl inX5_heat_5 kX5_heat_12 dX5_heat_26 ?_
      refine gt_4_2 F hP 1 rfl inX5_heat_4 kX5_heat_109 dX5_heat_29 ?_
      refine top_i hf (fun y_7 hf => ?_)
      refine lv_istore_n (lv' := [(2, .int y_7), (0, .ref (ga G 0)), (1, .int x1)]) F.1.1 F.1.2.1 dX5_heat_32 rfl hl (by decide) rfl (fun ls hl => ?_)
      refine lv_aload_n F.1.1 F.1.2.1 dX5_heat_33 rfl (lv_at hl 1 rfl) ?_
      refine gt_5_0 F hP 0 rfl inX5_heat_5 kX5_heat_12 dX5_heat_34 ?_
      refine lv_iload_n F.1.1 F.1.2.1 dX5_heat_37 rfl (lv_at hl 2 rfl) ?_
      refine pt_4_2 F hP hS 1 rfl inX5_heat_4 kX5_heat_109 dX5_heat_38 hf (fun μ_8 H locs hP hS hf => ?_)
      refine lv_iload_n F.1.1 F.1.2.1 dX5_heat_41 rfl (lv_at hl 0 rfl) ?_
      exact retI F hP hS dX5_heat_42 hf
    · refine lv_bipush (v := (-3 : Int32)) F.1.1 F.1.2.1 dX5_heat_22 (by decide) ?_
      exact retI F hP hS dX5_heat_24 hf
  · refine lv_bipush (v := (-2 : Int32)) F.1.1 F.1.2.1 dX5_heat_9 (by decide) ?_
    exact retI F hP hS dX5_heat_11 hf
abbrev rmX5_wet : Room := { frames := 1, cells := 0, slots := 0, locals := 21 }
theorem hdX5_wet : yX5_wet.cls = RX5 ∧ yX5_wet.cls ≠ "java/lang/invoke/MethodHandle" ∧ yX5_wet.cls ≠ "java/lang/invoke/VarHandle" ∧ (parseMethodDescriptor yX5_wet.desc).map (fun d => d.parameters.length) = some 1 := by decide +kernel
theorem kX5_wet_112 : Cond.fieldLink RX5 112 "PaperLayers$Wall" "damp" "I" ∈ wsX5_wet := List.mem_cons_of_mem _ (List.mem_append_left _ (List.mem_append_left _ (List.mem_of_getElem? (i := 1) rfl)))
theorem kX5_wet_12 : Cond.fieldLink RX5 12 "PaperLayers" "now" "LPaperLayers$Wall;" ∈ wsX5_wet := List.mem_cons_of_mem _ (List.mem_append_left _ (List.mem_append_left _ (List.mem_of_getElem? (i := 0) rfl)))
theorem inX5_wet_4 : ∀ w ∈ wsX40, w ∈ wsX5_wet := fun _ h => List.mem_cons_of_mem _ (List.mem_append_right _ (h))
theorem inX5_wet_5 : ∀ w ∈ wsX50, w ∈ wsX5_wet := fun _ h => List.mem_cons_of_mem _ (List.mem_append_left _ (List.mem_append_right _ (h)))
set_option maxHeartbeats 4000000 in
set_option maxRecDepth 100000 in
theorem mX5_wet (l : Launch) (G : GT) (hG : GD G) (x1 : Int32) (μ : Mem) (r : Int32) (μ' : Mem) (hf : fX5_wet x1 μ = some (r, μ')) : Ct l yX5_wet wsX5_wet rmX5_wet G [.ref (ga G 0), .int x1] μ (some (.int r)) μ' := by
  refine Ct.of (cc := cX5_wet) (maxL := 3) (ret := (some .int)) (own := RX5) hG (by decide) rfl rfl (Nat.le_of_ble_eq_true rfl) ?_
  intro p e s m args below meth c ls H locs F hl hP hS
  have hl : lv_has ls 3 [(0, .ref (ga G 0)), (1, .int x1)] := hl
  unfold fX5_wet at hf
  refine lv_iload_n F.1.1 F.1.2.1 dX5_wet_0 rfl (lv_at hl 1 rfl) ?_
  refine lv_bipush (v := (9 : Int32)) F.1.1 F.1.2.1 dX5_wet_1 (by decide) ?_
  obtain ⟨r_3, μ_1, hc_2, hf⟩ := bnd_some hf
  refine rS1 (R := rmX5_wet) (As := [.int x1, .int (9 : Int32)]) (rest := []) F hP hS hl (mX5_isUpTo l G F.2.2.2.2 x1 (9 : Int32) _ _ _ hc_2) gX5_wet_X5_isUpTo hdX5_isUpTo rfl rfl rfl ⟨Nat.le_of_ble_eq_true rfl, Nat.le_of_ble_eq_true rfl⟩ rfl rfl (Nat.le_of_ble_eq_true rfl) ⟨Nat.le_of_ble_eq_true rfl, Nat.le_of_ble_eq_true rfl⟩ dX5_wet_3 (fun H locs hP hS => ?_)
  refine jz_ne (tgt := 12) F dX5_wet_6 (by decide) hf (fun hf => ?_) (fun hf => ?_)
  · refine lv_aload_n F.1.1 F.1.2.1 dX5_wet_12 rfl (lv_at hl 0 rfl) ?_
    refine gt_5_0 F hP 0 rfl inX5_wet_5 kX5_wet_12 dX5_wet_13 ?_
    obtain ⟨r_6, μ_4, hc_5, hf⟩ := bnd_some hf
    refine rV1 (R := rmX5_wet) (As := []) (rest := []) F hP hS hl (mX4_stands l G F.2.2.2.2 1 rfl _ _ _ hc_5) gX5_wet_X4_stands rfl hdX4_stands rfl rfl rfl ⟨Nat.le_of_ble_eq_true rfl, Nat.le_of_ble_eq_true rfl⟩ (by decide) rfl rfl rfl (Nat.le_of_ble_eq_true rfl) ⟨Nat.le_of_ble_eq_true rfl, Nat.le_of_ble_eq_true rfl⟩ dX5_wet_16 (fun H locs hP hS => ?_)
    refine jz_ne (tgt := 25) F dX5_wet_19 (by decide) hf (fun hf => ?_) (fun hf => ?_)
    · refine lv_aload_n F.1.1 F.1.2.1 dX5_wet_25 rfl (lv_at hl 0 rfl) ?_
      refine gt_5_0 F hP 0 rfl inX5_wet_5 kX5_wet_12 dX5_wet_26 ?_
      refine gt_4_3 F hP 1 rfl inX5_wet_4 kX5_wet_112 dX5_wet_29 ?_
      refine top_i hf (fun y_7 hf => ?_)
      refine lv_istore_n (lv' := [(2, .int y_7), (0, .ref (ga G 0)), (1, .int x1)]) F.1.1 F.1.2.1 dX5_wet_32 rfl hl (by decide) rfl (fun ls hl => ?_)
      refine lv_aload_n F.1.1 F.1.2.1 dX5_wet_33 rfl (lv_at hl 1 rfl) ?_
      refine gt_5_0 F hP 0 rfl inX5_wet_5 kX5_wet_12 dX5_wet_34 ?_
      refine lv_iload_n F.1.1 F.1.2.1 dX5_wet_37 rfl (lv_at hl 2 rfl) ?_
      refine pt_4_3 F hP hS 1 rfl inX5_wet_4 kX5_wet_112 dX5_wet_38 hf (fun μ_8 H locs hP hS hf => ?_)
      refine lv_iload_n F.1.1 F.1.2.1 dX5_wet_41 rfl (lv_at hl 0 rfl) ?_
      exact retI F hP hS dX5_wet_42 hf
    · refine lv_bipush (v := (-3 : Int32)) F.1.1 F.1.2.1 dX5_wet_22 (by decide) ?_
      exact retI F hP hS dX5_wet_24 hf
  · refine lv_bipush (v := (-2 : Int32)) F.1.1 F.1.2.1 dX5_wet_9 (by decide) ?_
    exact retI F hP hS dX5_wet_11 hf
abbrev rmX5_paste : Room := { frames := 1, cells := 0, slots := 0, locals := 21 }
theorem hdX5_paste : yX5_paste.cls = RX5 ∧ yX5_paste.cls ≠ "java/lang/invoke/MethodHandle" ∧ yX5_paste.cls ≠ "java/lang/invoke/VarHandle" ∧ (parseMethodDescriptor yX5_paste.desc).map (fun d => d.parameters.length) = some 2 := by decide +kernel
theorem kX5_paste_12 : Cond.fieldLink RX5 12 "PaperLayers" "now" "LPaperLayers$Wall;" ∈ wsX5_paste := List.mem_cons_of_mem _ (List.mem_append_left _ (List.mem_append_left _ (List.mem_append_left _ (List.mem_of_getElem? (i := 0) rfl))))
theorem kX5_paste_86 : Cond.fieldLink RX5 86 "PaperLayers$Layer" "hold" "I" ∈ wsX5_paste := List.mem_cons_of_mem _ (List.mem_append_left _ (List.mem_append_left _ (List.mem_append_left _ (List.mem_of_getElem? (i := 1) rfl))))
theorem inX5_paste_0 : ∀ w ∈ wsX00, w ∈ wsX5_paste := fun _ h => List.mem_cons_of_mem _ (List.mem_append_left _ (List.mem_append_right _ (h)))
theorem inX5_paste_5 : ∀ w ∈ wsX50, w ∈ wsX5_paste := fun _ h => List.mem_cons_of_mem _ (List.mem_append_left _ (List.mem_append_left _ (List.mem_append_right _ (h))))
set_option maxHeartbeats 4000000 in
set_option maxRecDepth 100000 in
theorem mX5_paste (l : Launch) (G : GT) (hG : GD G) (x1 : Int32) (x2 : Int32) (μ : Mem) (r : Int32) (μ' : Mem) (hf : fX5_paste x1 x2 μ = some (r, μ')) : Ct l yX5_paste wsX5_paste rmX5_paste G [.ref (ga G 0), .int x1, .int x2] μ (some (.int r)) μ' := by
  refine Ct.of (cc := cX5_paste) (maxL := 5) (ret := (some .int)) (own := RX5) hG (by decide) rfl rfl (Nat.le_of_ble_eq_true rfl) ?_
  intro p e s m args below meth c ls H locs F hl hP hS
  have hl : lv_has ls 5 [(0, .ref (ga G 0)), (1, .int x1), (2, .int x2)] := hl
  unfold fX5_paste at hf
  refine lv_aload_n F.1.1 F.1.2.1 dX5_paste_0 rfl (lv_at hl 0 rfl) ?_
  refine gt_5_0 F hP 0 rfl inX5_paste_5 kX5_paste_12 dX5_paste_1 ?_
  refine lv_iload_n F.1.1 F.1.2.1 dX5_paste_4 rfl (lv_at hl 1 rfl) ?_
  obtain ⟨r_3, μ_1, hc_2, hf⟩ := bnd_some hf
  refine rV1 (R := rmX5_paste) (As := [.int x1]) (rest := []) F hP hS hl (mX4_layerAt l G F.2.2.2.2 1 rfl x1 _ _ _ hc_2) gX5_paste_X4_layerAt rfl hdX4_layerAt rfl rfl rfl ⟨Nat.le_of_ble_eq_true rfl, Nat.le_of_ble_eq_true rfl⟩ (by decide) rfl rfl rfl (Nat.le_of_ble_eq_true rfl) ⟨Nat.le_of_ble_eq_true rfl, Nat.le_of_ble_eq_true rfl⟩ dX5_paste_5 (fun H locs hP hS => ?_)
  refine top_o hf (fun hf => ?_) (fun i_4 ho_5 hf => ?_)
  · refine lv_astore_nN (lv' := [(3, .null), (0, .ref (ga G 0)), (1, .int x1), (2, .int x2)]) F.1.1 F.1.2.1 dX5_paste_8 rfl hl (by decide) rfl (fun ls hl => ?_)
    refine lv_aload_nN F.1.1 F.1.2.1 dX5_paste_9 rfl (lv_at hl 0 rfl) ?_
    refine lv_ifnonnullN F.1.1 F.1.2.1 dX5_paste_10 ?_
    refine lv_iconst (v := (-1 : Int32)) F.1.1 F.1.2.1 dX5_paste_13 (by decide) ?_
    exact retI F hP hS dX5_paste_14 hf
  · have s_6 := shX4_layerAt_r rfl (ho_5 ▸ hc_2)
    refine lv_astore_n (lv' := [(3, .ref (ga G i_4)), (0, .ref (ga G 0)), (1, .int x1), (2, .int x2)]) F.1.1 F.1.2.1 dX5_paste_8 rfl hl (by decide) rfl (fun ls hl => ?_)
    refine lv_aload_n F.1.1 F.1.2.1 dX5_paste_9 rfl (lv_at hl 0 rfl) ?_
    refine lv_ifnonnull (tgt := 15) F.1.1 F.1.2.1 dX5_paste_10 (by decide) ?_
    refine lv_iload_n F.1.1 F.1.2.1 dX5_paste_15 rfl (lv_at hl 3 rfl) ?_
    refine lv_bipush (v := (9 : Int32)) F.1.1 F.1.2.1 dX5_paste_16 (by decide) ?_
    obtain ⟨r_9, μ_7, hc_8, hf⟩ := bnd_some hf
    refine rS1 (R := rmX5_paste) (As := [.int x2, .int (9 : Int32)]) (rest := []) F hP hS hl (mX5_isUpTo l G F.2.2.2.2 x2 (9 : Int32) _ _ _ hc_8) gX5_paste_X5_isUpTo hdX5_isUpTo rfl rfl rfl ⟨Nat.le_of_ble_eq_true rfl, Nat.le_of_ble_eq_true rfl⟩ rfl rfl (Nat.le_of_ble_eq_true rfl) ⟨Nat.le_of_ble_eq_true rfl, Nat.le_of_ble_eq_true rfl⟩ dX5_paste_18 (fun H locs hP hS => ?_)
    refine jz_ne (tgt := 27) F dX5_paste_21 (by decide) hf (fun hf => ?_) (fun hf => ?_)
    · refine lv_aload_n F.1.1 F.1.2.1 dX5_paste_27 rfl (lv_at hl 0 rfl) ?_
      refine gt_0_1 F hP i_4 s_6 inX5_paste_0 kX5_paste_86 dX5_paste_28 ?_
      refine top_i hf (fun y_10 hf => ?_)
      refine lv_istore (lv' := [(4, .int y_10), (3, .ref (ga G i_4)), (0, .ref (ga G 0)), (1, .int x1), (2, .int x2)]) F.1.1 F.1.2.1 dX5_paste_31 hl (by decide) rfl (fun ls hl => ?_)
      refine lv_aload_n F.1.1 F.1.2.1 dX5_paste_33 rfl (lv_at hl 1 rfl) ?_
      refine lv_iload_n F.1.1 F.1.2.1 dX5_paste_34 rfl (lv_at hl 4 rfl) ?_
      refine pt_0_1 F hP hS i_4 s_6 inX5_paste_0 kX5_paste_86 dX5_paste_35 hf (fun μ_11 H locs hP hS hf => ?_)
      refine lv_iload F.1.1 F.1.2.1 dX5_paste_38 (lv_at hl 0 rfl) ?_
      exact retI F hP hS dX5_paste_40 hf
    · refine lv_bipush (v := (-2 : Int32)) F.1.1 F.1.2.1 dX5_paste_24 (by decide) ?_
      exact retI F hP hS dX5_paste_26 hf
abbrev rmX5_setOfFirst : Room := { frames := 0, cells := 0, slots := 0, locals := 0 }
theorem hdX5_setOfFirst : yX5_setOfFirst.cls ≠ "java/lang/invoke/MethodHandle" ∧ yX5_setOfFirst.cls ≠ "java/lang/invoke/VarHandle" ∧ (parseMethodDescriptor yX5_setOfFirst.desc).map (fun d => d.parameters.length) = some 1 := by decide +kernel
set_option maxHeartbeats 4000000 in
set_option maxRecDepth 100000 in
theorem mX5_setOfFirst (l : Launch) (G : GT) (hG : GD G) (x0 : Int32) (μ : Mem) (r : Int32) (μ' : Mem) (hf : fX5_setOfFirst x0 μ = some (r, μ')) : Ct l yX5_setOfFirst wsX5_setOfFirst rmX5_setOfFirst G [.int x0] μ (some (.int r)) μ' := by
  refine Ct.of (cc := cX5_setOfFirst) (maxL := 1) (ret := (some .int)) (own := RX5) hG (by decide) rfl rfl (Nat.le_of_ble_eq_true rfl) ?_
  intro p e s m args below meth c ls H locs F hl hP hS
  have hl : lv_has ls 1 [(0, .int x0)] := hl
  unfold fX5_setOfFirst at hf
  refine lv_iconst (v := (1 : Int32)) F.1.1 F.1.2.1 dX5_setOfFirst_0 (by decide) ?_
  refine lv_iload_n F.1.1 F.1.2.1 dX5_setOfFirst_1 rfl (lv_at hl 0 rfl) ?_
  refine lv_ishl F.1.1 F.1.2.1 dX5_setOfFirst_2 ?_
  refine lv_iconst (v := (1 : Int32)) F.1.1 F.1.2.1 dX5_setOfFirst_3 (by decide) ?_
  refine lv_isub F.1.1 F.1.2.1 dX5_setOfFirst_4 ?_
  exact retI F hP hS dX5_setOfFirst_5 hf
abbrev rmX5_heard : Room := { frames := 2, cells := 0, slots := 0, locals := 42 }
theorem hdX5_heard : yX5_heard.cls = RX5 ∧ yX5_heard.cls ≠ "java/lang/invoke/MethodHandle" ∧ yX5_heard.cls ≠ "java/lang/invoke/VarHandle" ∧ (parseMethodDescriptor yX5_heard.desc).map (fun d => d.parameters.length) = some 0 := by decide +kernel
theorem kX5_heard_12 : Cond.fieldLink RX5 12 "PaperLayers" "now" "LPaperLayers$Wall;" ∈ wsX5_heard := List.mem_cons_of_mem _ (List.mem_append_left _ (List.mem_append_left _ (List.mem_append_left _ (List.mem_append_left _ (List.mem_of_getElem? (i := 0) rfl)))))
theorem inX5_heard_5 : ∀ w ∈ wsX50, w ∈ wsX5_heard := fun _ h => List.mem_cons_of_mem _ (List.mem_append_left _ (List.mem_append_left _ (List.mem_append_right _ (h))))
set_option maxHeartbeats 4000000 in
set_option maxRecDepth 100000 in
theorem mX5_heard (l : Launch) (G : GT) (hG : GD G) (μ : Mem) (r : Int32) (μ' : Mem) (hf : fX5_heard μ = some (r, μ')) : Ct l yX5_heard wsX5_heard rmX5_heard G [.ref (ga G 0)] μ (some (.int r)) μ' := by
  refine Ct.of (cc := cX5_heard) (maxL := 1) (ret := (some .int)) (own := RX5) hG (by decide) rfl rfl (Nat.le_of_ble_eq_true rfl) ?_
  intro p e s m args below meth c ls H locs F hl hP hS
  have hl : lv_has ls 1 [(0, .ref (ga G 0))] := hl
  unfold fX5_heard at hf
  refine lv_aload_n F.1.1 F.1.2.1 dX5_heard_0 rfl (lv_at hl 0 rfl) ?_
  refine gt_5_0 F hP 0 rfl inX5_heard_5 kX5_heard_12 dX5_heard_1 ?_
  obtain ⟨r_3, μ_1, hc_2, hf⟩ := bnd_some hf
  refine rV1 (R := rmX5_heard) (As := []) (rest := []) F hP hS hl (mX4_stands l G F.2.2.2.2 1 rfl _ _ _ hc_2) gX5_heard_X4_stands rfl hdX4_stands rfl rfl rfl ⟨Nat.le_of_ble_eq_true rfl, Nat.le_of_ble_eq_true rfl⟩ (by decide) rfl rfl rfl (Nat.le_of_ble_eq_true rfl) ⟨Nat.le_of_ble_eq_true rfl, Nat.le_of_ble_eq_true rfl⟩ dX5_heard_4 (fun H locs hP hS => ?_)
  refine jz_eq (tgt := 30) F dX5_heard_7 (by decide) hf (fun hf => ?_) (fun hf => ?_)
  · refine lv_bipush (v := (-3 : Int32)) F.1.1 F.1.2.1 dX5_heard_30 (by decide) ?_
    exact retI F hP hS dX5_heard_32 hf
  · refine lv_aload_n F.1.1 F.1.2.1 dX5_heard_10 rfl (lv_at hl 0 rfl) ?_
    refine gt_5_0 F hP 0 rfl inX5_heard_5 kX5_heard_12 dX5_heard_11 ?_
    refine lv_aload_n F.1.1 F.1.2.1 dX5_heard_14 rfl (lv_at hl 0 rfl) ?_
    refine gt_5_0 F hP 0 rfl inX5_heard_5 kX5_heard_12 dX5_heard_15 ?_
    obtain ⟨r_6, μ_4, hc_5, hf⟩ := bnd_some hf
    refine rV1 (R := rmX5_heard) (As := []) (rest := [.ref (ga G 1)]) F hP hS hl (mX4_warmth l G F.2.2.2.2 1 rfl _ _ _ hc_5) gX5_heard_X4_warmth rfl hdX4_warmth rfl rfl rfl ⟨Nat.le_of_ble_eq_true rfl, Nat.le_of_ble_eq_true rfl⟩ (by decide) rfl rfl rfl (Nat.le_of_ble_eq_true rfl) ⟨Nat.le_of_ble_eq_true rfl, Nat.le_of_ble_eq_true rfl⟩ dX5_heard_18 (fun H locs hP hS => ?_)
    obtain ⟨r_9, μ_7, hc_8, hf⟩ := bnd_some hf
    refine rV1 (R := rmX5_heard) (As := [.int r_6]) (rest := []) F hP hS hl (mX4_heardBy l G F.2.2.2.2 1 rfl r_6 _ _ _ hc_8) gX5_heard_X4_heardBy rfl hdX4_heardBy rfl rfl rfl ⟨Nat.le_of_ble_eq_true rfl, Nat.le_of_ble_eq_true rfl⟩ (by decide) rfl rfl rfl (Nat.le_of_ble_eq_true rfl) ⟨Nat.le_of_ble_eq_true rfl, Nat.le_of_ble_eq_true rfl⟩ dX5_heard_21 (fun H locs hP hS => ?_)
    obtain ⟨r_12, μ_10, hc_11, hf⟩ := bnd_some hf
    refine rS1 (R := rmX5_heard) (As := [.int r_9]) (rest := []) F hP hS hl (mX5_setOfFirst l G F.2.2.2.2 r_9 _ _ _ hc_11) gX5_heard_X5_setOfFirst hdX5_setOfFirst rfl rfl rfl ⟨Nat.le_of_ble_eq_true rfl, Nat.le_of_ble_eq_true rfl⟩ rfl rfl (Nat.le_of_ble_eq_true rfl) ⟨Nat.le_of_ble_eq_true rfl, Nat.le_of_ble_eq_true rfl⟩ dX5_heard_24 (fun H locs hP hS => ?_)
    refine lv_goto (tgt := 32) F.1.1 F.1.2.1 dX5_heard_27 (by decide) ?_
    exact retI F hP hS dX5_heard_32 hf
abbrev rmX4_votesOf : Room := { frames := 0, cells := 0, slots := 0, locals := 0 }
theorem hdX4_votesOf : yX4_votesOf.cls = RX4 ∧ yX4_votesOf.cls ≠ "java/lang/invoke/MethodHandle" ∧ yX4_votesOf.cls ≠ "java/lang/invoke/VarHandle" ∧ (parseMethodDescriptor yX4_votesOf.desc).map (fun d => d.parameters.length) = some 1 := by decide +kernel
theorem kX4_votesOf_11 : Cond.fieldLink RX4 11 "PaperLayers$Wall" "layers" "[LPaperLayers$Layer;" ∈ wsX4_votesOf := List.mem_cons_of_mem _ (List.mem_append_left _ (List.mem_append_left _ (List.mem_of_getElem? (i := 0) rfl)))
theorem kX4_votesOf_43 : Cond.fieldLink RX4 43 "PaperLayers$Layer" "advice" "I" ∈ wsX4_votesOf := List.mem_cons_of_mem _ (List.mem_append_left _ (List.mem_append_left _ (List.mem_of_getElem? (i := 1) rfl)))
theorem inX4_votesOf_0 : ∀ w ∈ wsX00, w ∈ wsX4_votesOf := fun _ h => List.mem_cons_of_mem _ (List.mem_append_right _ (h))
theorem inX4_votesOf_4 : ∀ w ∈ wsX40, w ∈ wsX4_votesOf := fun _ h => List.mem_cons_of_mem _ (List.mem_append_left _ (List.mem_append_right _ (h)))
set_option maxHeartbeats 4000000 in
set_option maxRecDepth 100000 in
theorem lX4_votesOf_L5 (l : Launch) (G : GT) {p : Program} {e : Env} {s : State} {m : MethodId} {args : Array Value} {below : List Frame} {meth : Method} {c : Code} (F : Fx p s m args meth c cX4_votesOf 5 wsX4_votesOf RX4 (some .long) G) (w : Nat) (sw : sh w = 4) (x1 : Int32) (r : Int64) (μ' : Mem) : ∀ (fuel : Nat), ∀ (x2 : Int64) (x4 : Int32) (μ : Mem) (H : Heap) (locs : List Loc) (ls : Array Slot), Hh G μ H → va_S (gA G) s.heap H locs → lv_has ls 5 [(0, .ref (ga G w)), (1, .int x1), (2, .long x2), (4, .int x4)] → fX4_votesOf_L5 w x1 fuel x2 x4 μ = some (r, μ') → W p l e rmX4_votesOf s m args below meth c H locs 0 0 (MQ below (Qg G (some (.long r)) μ') args s 0 0 (gA G)) (F0 m 5 ls []) := by
  intro fuel
  induction fuel with
  | zero =>
    intro x2 x4 μ H locs ls hP hS hl hf
    exact absurd hf (by intro h; cases h)
  | succ fuel ih5 =>
    intro x2 x4 μ H locs ls hP hS hl hf
    have hf : sX4_votesOf_L5 (fX4_votesOf_L5 w x1 fuel) w x1 x2 x4 μ = some (r, μ') := hf
    unfold sX4_votesOf_L5 at hf
    refine lv_iload F.1.1 F.1.2.1 dX4_votesOf_5 (lv_at hl 3 rfl) ?_
    refine lv_iload_n F.1.1 F.1.2.1 dX4_votesOf_7 rfl (lv_at hl 1 rfl) ?_
    refine jc_ge (tgt := 34) F dX4_votesOf_8 (by decide) hf (fun hf => ?_) (fun hf => ?_)
    · refine lv_lload_n F.1.1 F.1.2.1 dX4_votesOf_34 rfl (lv_at hl 2 rfl) ?_
      exact retL F hP hS dX4_votesOf_35 hf
    · refine lv_lload_n F.1.1 F.1.2.1 dX4_votesOf_11 rfl (lv_at hl 2 rfl) ?_
      refine lv_lconst (v := (1 : Int64)) F.1.1 F.1.2.1 dX4_votesOf_12 (by decide) ?_
      refine lv_iconst (v := (4 : Int32)) F.1.1 F.1.2.1 dX4_votesOf_13 (by decide) ?_
      refine lv_aload_n F.1.1 F.1.2.1 dX4_votesOf_14 rfl (lv_at hl 0 rfl) ?_
      refine gt_4_0 F hP w sw inX4_votesOf_4 kX4_votesOf_11 dX4_votesOf_15 (fun s_2 => ?_)
      refine lv_iload F.1.1 F.1.2.1 dX4_votesOf_18 (lv_at hl 3 rfl) ?_
      refine r_aaL F hP (w + 1) s_2 dX4_votesOf_20 hf (fun s_3 hf => ?_)
      refine gt_0_2 F hP ((w + 1) + 1 + (x4).toNatClampNeg) s_3 inX4_votesOf_0 kX4_votesOf_43 dX4_votesOf_21 ?_
      refine lv_imul F.1.1 F.1.2.1 dX4_votesOf_24 ?_
      refine lv_lshl F.1.1 F.1.2.1 dX4_votesOf_25 rfl ?_
      refine lv_ladd F.1.1 F.1.2.1 dX4_votesOf_26 ?_
      refine top_l hf (fun y_4 hf => ?_)
      refine lv_lstore_n (lv' := [(2, .long y_4), (0, .ref (ga G w)), (1, .int x1), (4, .int x4)]) F.1.1 F.1.2.1 dX4_votesOf_27 rfl hl (by decide) rfl (fun ls hl => ?_)
      refine top_n hf (fun y_5 ey_5 hf => ?_)
      refine lv_iinc (v := y_5) (lv' := [(4, .int y_5), (2, .long y_4), (0, .ref (ga G w)), (1, .int x1)]) F.1.1 F.1.2.1 dX4_votesOf_28 hl (k := 3) rfl ey_5 (by decide) rfl (fun ls hl => ?_)
      refine lv_goto (tgt := 5) F.1.1 F.1.2.1 dX4_votesOf_31 (by decide) ?_
      exact ih5 y_4 y_5 μ H locs ls hP hS (lv_sub hl [2, 3, 1, 0] rfl) hf
set_option maxHeartbeats 4000000 in
set_option maxRecDepth 100000 in
theorem mX4_votesOf (l : Launch) (G : GT) (hG : GD G) (w : Nat) (sw : sh w = 4) (x1 : Int32) (μ : Mem) (r : Int64) (μ' : Mem) (hf : fX4_votesOf w x1 μ = some (r, μ')) : Ct l yX4_votesOf wsX4_votesOf rmX4_votesOf G [.ref (ga G w), .int x1] μ (some (.long r)) μ' := by
  refine Ct.of (cc := cX4_votesOf) (maxL := 5) (ret := (some .long)) (own := RX4) hG (by decide) rfl rfl (Nat.le_of_ble_eq_true rfl) ?_
  intro p e s m args below meth c ls H locs F hl hP hS
  have hl : lv_has ls 5 [(0, .ref (ga G w)), (1, .int x1)] := hl
  unfold fX4_votesOf at hf
  refine lv_lconst (v := (0 : Int64)) F.1.1 F.1.2.1 dX4_votesOf_0 (by decide) ?_
  refine top_l hf (fun y_1 hf => ?_)
  refine lv_lstore_n (lv' := [(2, .long y_1), (0, .ref (ga G w)), (1, .int x1)]) F.1.1 F.1.2.1 dX4_votesOf_1 rfl hl (by decide) rfl (fun ls hl => ?_)
  refine lv_iconst (v := (0 : Int32)) F.1.1 F.1.2.1 dX4_votesOf_2 (by decide) ?_
  refine lv_istore (lv' := [(4, .int (0 : Int32)), (2, .long y_1), (0, .ref (ga G w)), (1, .int x1)]) F.1.1 F.1.2.1 dX4_votesOf_3 hl (by decide) rfl (fun ls hl => ?_)
  exact lX4_votesOf_L5 l G F w sw x1 _ _ FU y_1 (0 : Int32) μ H locs ls hP hS (lv_sub hl [2, 3, 1, 0] rfl) hf
abbrev rmX4_votesFor : Room := { frames := 0, cells := 0, slots := 0, locals := 0 }
theorem hdX4_votesFor : yX4_votesFor.cls ≠ "java/lang/invoke/MethodHandle" ∧ yX4_votesFor.cls ≠ "java/lang/invoke/VarHandle" ∧ (parseMethodDescriptor yX4_votesFor.desc).map (fun d => d.parameters.length) = some 2 := by decide +kernel
set_option maxHeartbeats 4000000 in
set_option maxRecDepth 100000 in
theorem mX4_votesFor (l : Launch) (G : GT) (hG : GD G) (x0 : Int32) (x1 : Int64) (μ : Mem) (r : Int32) (μ' : Mem) (hf : fX4_votesFor x0 x1 μ = some (r, μ')) : Ct l yX4_votesFor wsX4_votesFor rmX4_votesFor G [.int x0, .long x1] μ (some (.int r)) μ' := by
  refine Ct.of (cc := cX4_votesFor) (maxL := 3) (ret := (some .int)) (own := RX4) hG (by decide) rfl rfl (Nat.le_of_ble_eq_true rfl) ?_
  intro p e s m args below meth c ls H locs F hl hP hS
  have hl : lv_has ls 3 [(0, .int x0), (1, .long x1)] := hl
  unfold fX4_votesFor at hf
  refine lv_lload_n F.1.1 F.1.2.1 dX4_votesFor_0 rfl (lv_at hl 1 rfl) ?_
  refine lv_iconst (v := (4 : Int32)) F.1.1 F.1.2.1 dX4_votesFor_1 (by decide) ?_
  refine lv_iload_n F.1.1 F.1.2.1 dX4_votesFor_2 rfl (lv_at hl 0 rfl) ?_
  refine lv_imul F.1.1 F.1.2.1 dX4_votesFor_3 ?_
  refine lv_lshr F.1.1 F.1.2.1 dX4_votesFor_4 rfl ?_
  refine lv_l2i F.1.1 F.1.2.1 dX4_votesFor_5 rfl ?_
  refine lv_bipush (v := (15 : Int32)) F.1.1 F.1.2.1 dX4_votesFor_6 (by decide) ?_
  refine lv_iand F.1.1 F.1.2.1 dX4_votesFor_8 ?_
  exact retI F hP hS dX4_votesFor_9 hf
abbrev rmX4_counselBy : Room := { frames := 2, cells := 0, slots := 0, locals := 42 }
theorem hdX4_counselBy : yX4_counselBy.cls = RX4 ∧ yX4_counselBy.cls ≠ "java/lang/invoke/MethodHandle" ∧ yX4_counselBy.cls ≠ "java/lang/invoke/VarHandle" ∧ (parseMethodDescriptor yX4_counselBy.desc).map (fun d => d.parameters.length) = some 1 := by decide +kernel
theorem kX4_counselBy_11 : Cond.fieldLink RX4 11 "PaperLayers$Wall" "layers" "[LPaperLayers$Layer;" ∈ wsX4_counselBy := List.mem_cons_of_mem _ (List.mem_append_left _ (List.mem_append_left _ (List.mem_of_getElem? (i := 0) rfl)))
theorem kX4_counselBy_43 : Cond.fieldLink RX4 43 "PaperLayers$Layer" "advice" "I" ∈ wsX4_counselBy := List.mem_cons_of_mem _ (List.mem_append_left _ (List.mem_append_left _ (List.mem_of_getElem? (i := 1) rfl)))
theorem inX4_counselBy_0 : ∀ w ∈ wsX00, w ∈ wsX4_counselBy := fun _ h => List.mem_cons_of_mem _ (List.mem_append_right _ (h))
theorem inX4_counselBy_4 : ∀ w ∈ wsX40, w ∈ wsX4_counselBy := fun _ h => List.mem_cons_of_mem _ (List.mem_append_left _ (List.mem_append_right _ (h)))
set_option maxHeartbeats 4000000 in
set_option maxRecDepth 100000 in
theorem lX4_counselBy_L22 (l : Launch) (G : GT) {p : Program} {e : Env} {s : State} {m : MethodId} {args : Array Value} {below : List Frame} {meth : Method} {c : Code} (F : Fx p s m args meth c cX4_counselBy 9 wsX4_counselBy RX4 (some .int) G) (w : Nat) (sw : sh w = 4) (x2 : Int32) (x3 : Int64) (r : Int32) (μ' : Mem) : ∀ (fuel : Nat), ∀ (x5 : Int32) (x6 : Int32) (x7 : Int32) (μ : Mem) (H : Heap) (locs : List Loc) (ls : Array Slot), Hh G μ H → va_S (gA G) s.heap H locs → lv_has ls 9 [(0, .ref (ga G w)), (2, .int x2), (3, .long x3), (5, .int x5), (6, .int x6), (7, .int x7)] → fX4_counselBy_L22 w x2 x3 fuel x5 x6 x7 μ = some (r, μ') → W p l e rmX4_counselBy s m args below meth c H locs 0 0 (MQ below (Qg G (some (.int r)) μ') args s 0 0 (gA G)) (F0 m 22 ls []) := by
  intro fuel
  induction fuel with
  | zero =>
    intro x5 x6 x7 μ H locs ls hP hS hl hf
    exact absurd hf (by intro h; cases h)
  | succ fuel ih22 =>
    intro x5 x6 x7 μ H locs ls hP hS hl hf
    have hf : sX4_counselBy_L22 (fX4_counselBy_L22 w x2 x3 fuel) w x2 x3 x5 x6 x7 μ = some (r, μ') := hf
    unfold sX4_counselBy_L22 at hf
    refine lv_iload F.1.1 F.1.2.1 dX4_counselBy_22 (lv_at hl 5 rfl) ?_
    refine lv_iload_n F.1.1 F.1.2.1 dX4_counselBy_24 rfl (lv_at hl 1 rfl) ?_
    refine jc_ge (tgt := 73) F dX4_counselBy_25 (by decide) hf (fun hf => ?_) (fun hf => ?_)
    · refine lv_iload F.1.1 F.1.2.1 dX4_counselBy_73 (lv_at hl 4 rfl) ?_
      exact retI F hP hS dX4_counselBy_75 hf
    · refine lv_aload_n F.1.1 F.1.2.1 dX4_counselBy_28 rfl (lv_at hl 0 rfl) ?_
      refine gt_4_0 F hP w sw inX4_counselBy_4 kX4_counselBy_11 dX4_counselBy_29 (fun s_7 => ?_)
      refine lv_iload F.1.1 F.1.2.1 dX4_counselBy_32 (lv_at hl 5 rfl) ?_
      refine r_aaL F hP (w + 1) s_7 dX4_counselBy_34 hf (fun s_8 hf => ?_)
      refine gt_0_2 F hP ((w + 1) + 1 + (x7).toNatClampNeg) s_8 inX4_counselBy_0 kX4_counselBy_43 dX4_counselBy_35 ?_
      refine lv_lload_n F.1.1 F.1.2.1 dX4_counselBy_38 rfl (lv_at hl 2 rfl) ?_
      obtain ⟨r_11, μ_9, hc_10, hf⟩ := bnd_some hf
      refine rS1 (R := rmX4_counselBy) (As := [.int (μ ((w + 1) + 1 + (x7).toNatClampNeg) 2), .long x3]) (rest := []) F hP hS hl (mX4_votesFor l G F.2.2.2.2 (μ ((w + 1) + 1 + (x7).toNatClampNeg) 2) x3 _ _ _ hc_10) gX4_counselBy_X4_votesFor hdX4_votesFor rfl rfl rfl ⟨Nat.le_of_ble_eq_true rfl, Nat.le_of_ble_eq_true rfl⟩ rfl rfl (Nat.le_of_ble_eq_true rfl) ⟨Nat.le_of_ble_eq_true rfl, Nat.le_of_ble_eq_true rfl⟩ dX4_counselBy_39 (fun H locs hP hS => ?_)
      refine lv_istore (lv' := [(8, .int r_11), (0, .ref (ga G w)), (2, .int x2), (3, .long x3), (5, .int x5), (6, .int x6), (7, .int x7)]) F.1.1 F.1.2.1 dX4_counselBy_42 hl (by decide) rfl (fun ls hl => ?_)
      refine lv_iload F.1.1 F.1.2.1 dX4_counselBy_44 (lv_at hl 0 rfl) ?_
      refine lv_iload F.1.1 F.1.2.1 dX4_counselBy_46 (lv_at hl 4 rfl) ?_
      refine jc_le (tgt := 67) F dX4_counselBy_48 (by decide) hf (fun hf => ?_) (fun hf => ?_)
      · refine top_n hf (fun y_12 ey_12 hf => ?_)
        refine lv_iinc (v := y_12) (lv' := [(7, .int y_12), (8, .int r_11), (0, .ref (ga G w)), (2, .int x2), (3, .long x3), (5, .int x5), (6, .int x6)]) F.1.1 F.1.2.1 dX4_counselBy_67 hl (k := 6) rfl ey_12 (by decide) rfl (fun ls hl => ?_)
        refine lv_goto (tgt := 22) F.1.1 F.1.2.1 dX4_counselBy_70 (by decide) ?_
        exact ih22 x5 x6 y_12 μ_9 H locs ls hP hS (lv_sub hl [2, 3, 4, 5, 6, 0] rfl) hf
      · refine lv_iload F.1.1 F.1.2.1 dX4_counselBy_51 (lv_at hl 0 rfl) ?_
        refine lv_istore (lv' := [(5, .int r_11), (8, .int r_11), (0, .ref (ga G w)), (2, .int x2), (3, .long x3), (6, .int x6), (7, .int x7)]) F.1.1 F.1.2.1 dX4_counselBy_53 hl (by decide) rfl (fun ls hl => ?_)
        refine lv_aload_n F.1.1 F.1.2.1 dX4_counselBy_55 rfl (lv_at hl 2 rfl) ?_
        refine gt_4_0 F hP w sw inX4_counselBy_4 kX4_counselBy_11 dX4_counselBy_56 (fun s_13 => ?_)
        refine lv_iload F.1.1 F.1.2.1 dX4_counselBy_59 (lv_at hl 6 rfl) ?_
        refine r_aaL F hP (w + 1) s_13 dX4_counselBy_61 hf (fun s_14 hf => ?_)
        refine gt_0_2 F hP ((w + 1) + 1 + (x7).toNatClampNeg) s_14 inX4_counselBy_0 kX4_counselBy_43 dX4_counselBy_62 ?_
        refine top_i hf (fun y_15 hf => ?_)
        refine lv_istore (lv' := [(6, .int y_15), (5, .int r_11), (8, .int r_11), (0, .ref (ga G w)), (2, .int x2), (3, .long x3), (7, .int x7)]) F.1.1 F.1.2.1 dX4_counselBy_65 hl (by decide) rfl (fun ls hl => ?_)
        refine top_n hf (fun y_16 ey_16 hf => ?_)
        refine lv_iinc (v := y_16) (lv' := [(7, .int y_16), (6, .int y_15), (5, .int r_11), (8, .int r_11), (0, .ref (ga G w)), (2, .int x2), (3, .long x3)]) F.1.1 F.1.2.1 dX4_counselBy_67 hl (k := 6) rfl ey_16 (by decide) rfl (fun ls hl => ?_)
        refine lv_goto (tgt := 22) F.1.1 F.1.2.1 dX4_counselBy_70 (by decide) ?_
        exact ih22 r_11 y_15 y_16 μ_9 H locs ls hP hS (lv_sub hl [4, 5, 6, 2, 1, 0] rfl) hf
set_option maxHeartbeats 4000000 in
set_option maxRecDepth 100000 in
theorem mX4_counselBy (l : Launch) (G : GT) (hG : GD G) (w : Nat) (sw : sh w = 4) (x1 : Int32) (μ : Mem) (r : Int32) (μ' : Mem) (hf : fX4_counselBy w x1 μ = some (r, μ')) : Ct l yX4_counselBy wsX4_counselBy rmX4_counselBy G [.ref (ga G w), .int x1] μ (some (.int r)) μ' := by
  refine Ct.of (cc := cX4_counselBy) (maxL := 9) (ret := (some .int)) (own := RX4) hG (by decide) rfl rfl (Nat.le_of_ble_eq_true rfl) ?_
  intro p e s m args below meth c ls H locs F hl hP hS
  have hl : lv_has ls 9 [(0, .ref (ga G w)), (1, .int x1)] := hl
  unfold fX4_counselBy at hf
  refine lv_aload_n F.1.1 F.1.2.1 dX4_counselBy_0 rfl (lv_at hl 0 rfl) ?_
  refine lv_iload_n F.1.1 F.1.2.1 dX4_counselBy_1 rfl (lv_at hl 1 rfl) ?_
  obtain ⟨r_3, μ_1, hc_2, hf⟩ := bnd_some hf
  refine rV1 (R := rmX4_counselBy) (As := [.int x1]) (rest := []) F hP hS hl (mX4_heardBy l G F.2.2.2.2 w sw x1 _ _ _ hc_2) gX4_counselBy_X4_heardBy sw hdX4_heardBy rfl rfl rfl ⟨Nat.le_of_ble_eq_true rfl, Nat.le_of_ble_eq_true rfl⟩ (by decide) rfl rfl rfl (Nat.le_of_ble_eq_true rfl) ⟨Nat.le_of_ble_eq_true rfl, Nat.le_of_ble_eq_true rfl⟩ dX4_counselBy_2 (fun H locs hP hS => ?_)
  refine lv_istore_n (lv' := [(2, .int r_3), (0, .ref (ga G w)), (1, .int x1)]) F.1.1 F.1.2.1 dX4_counselBy_5 rfl hl (by decide) rfl (fun ls hl => ?_)
  refine lv_aload_n F.1.1 F.1.2.1 dX4_counselBy_6 rfl (lv_at hl 1 rfl) ?_
  refine lv_iload_n F.1.1 F.1.2.1 dX4_counselBy_7 rfl (lv_at hl 0 rfl) ?_
  obtain ⟨r_6, μ_4, hc_5, hf⟩ := bnd_some hf
  refine rV1 (R := rmX4_counselBy) (As := [.int r_3]) (rest := []) F hP hS hl (mX4_votesOf l G F.2.2.2.2 w sw r_3 _ _ _ hc_5) gX4_counselBy_X4_votesOf sw hdX4_votesOf rfl rfl rfl ⟨Nat.le_of_ble_eq_true rfl, Nat.le_of_ble_eq_true rfl⟩ (by decide) rfl rfl rfl (Nat.le_of_ble_eq_true rfl) ⟨Nat.le_of_ble_eq_true rfl, Nat.le_of_ble_eq_true rfl⟩ dX4_counselBy_8 (fun H locs hP hS => ?_)
  refine lv_lstore_n (lv' := [(3, .long r_6), (2, .int r_3), (0, .ref (ga G w)), (1, .int x1)]) F.1.1 F.1.2.1 dX4_counselBy_11 rfl hl (by decide) rfl (fun ls hl => ?_)
  refine lv_iconst (v := (0 : Int32)) F.1.1 F.1.2.1 dX4_counselBy_12 (by decide) ?_
  refine lv_istore (lv' := [(5, .int (0 : Int32)), (3, .long r_6), (2, .int r_3), (0, .ref (ga G w)), (1, .int x1)]) F.1.1 F.1.2.1 dX4_counselBy_13 hl (by decide) rfl (fun ls hl => ?_)
  refine lv_bipush (v := (-9 : Int32)) F.1.1 F.1.2.1 dX4_counselBy_15 (by decide) ?_
  refine lv_istore (lv' := [(6, .int (-9 : Int32)), (5, .int (0 : Int32)), (3, .long r_6), (2, .int r_3), (0, .ref (ga G w)), (1, .int x1)]) F.1.1 F.1.2.1 dX4_counselBy_17 hl (by decide) rfl (fun ls hl => ?_)
  refine lv_iconst (v := (0 : Int32)) F.1.1 F.1.2.1 dX4_counselBy_19 (by decide) ?_
  refine lv_istore (lv' := [(7, .int (0 : Int32)), (6, .int (-9 : Int32)), (5, .int (0 : Int32)), (3, .long r_6), (2, .int r_3), (0, .ref (ga G w)), (1, .int x1)]) F.1.1 F.1.2.1 dX4_counselBy_20 hl (by decide) rfl (fun ls hl => ?_)
  exact lX4_counselBy_L22 l G F w sw r_3 r_6 _ _ FU (0 : Int32) (-9 : Int32) (0 : Int32) μ_4 H locs ls hP hS (lv_sub hl [5, 4, 3, 2, 1, 0] rfl) hf
abbrev rmX5_counsel : Room := { frames := 3, cells := 0, slots := 0, locals := 70 }
theorem hdX5_counsel : yX5_counsel.cls = RX5 ∧ yX5_counsel.cls ≠ "java/lang/invoke/MethodHandle" ∧ yX5_counsel.cls ≠ "java/lang/invoke/VarHandle" ∧ (parseMethodDescriptor yX5_counsel.desc).map (fun d => d.parameters.length) = some 2 := by decide +kernel
theorem kX5_counsel_12 : Cond.fieldLink RX5 12 "PaperLayers" "now" "LPaperLayers$Wall;" ∈ wsX5_counsel := List.mem_cons_of_mem _ (List.mem_append_left _ (List.mem_append_left _ (List.mem_append_left _ (List.mem_append_left _ (List.mem_of_getElem? (i := 0) rfl)))))
theorem inX5_counsel_5 : ∀ w ∈ wsX50, w ∈ wsX5_counsel := fun _ h => List.mem_cons_of_mem _ (List.mem_append_left _ (List.mem_append_left _ (List.mem_append_right _ (h))))
set_option maxHeartbeats 4000000 in
set_option maxRecDepth 100000 in
theorem mX5_counsel (l : Launch) (G : GT) (hG : GD G) (x1 : Int32) (x2 : Int32) (μ : Mem) (r : Int32) (μ' : Mem) (hf : fX5_counsel x1 x2 μ = some (r, μ')) : Ct l yX5_counsel wsX5_counsel rmX5_counsel G [.ref (ga G 0), .int x1, .int x2] μ (some (.int r)) μ' := by
  refine Ct.of (cc := cX5_counsel) (maxL := 3) (ret := (some .int)) (own := RX5) hG (by decide) rfl rfl (Nat.le_of_ble_eq_true rfl) ?_
  intro p e s m args below meth c ls H locs F hl hP hS
  have hl : lv_has ls 3 [(0, .ref (ga G 0)), (1, .int x1), (2, .int x2)] := hl
  unfold fX5_counsel at hf
  refine lv_iload_n F.1.1 F.1.2.1 dX5_counsel_0 rfl (lv_at hl 1 rfl) ?_
  refine lv_bipush (v := (20 : Int32)) F.1.1 F.1.2.1 dX5_counsel_1 (by decide) ?_
  obtain ⟨r_3, μ_1, hc_2, hf⟩ := bnd_some hf
  refine rS1 (R := rmX5_counsel) (As := [.int x1, .int (20 : Int32)]) (rest := []) F hP hS hl (mX5_isUpTo l G F.2.2.2.2 x1 (20 : Int32) _ _ _ hc_2) gX5_counsel_X5_isUpTo hdX5_isUpTo rfl rfl rfl ⟨Nat.le_of_ble_eq_true rfl, Nat.le_of_ble_eq_true rfl⟩ rfl rfl (Nat.le_of_ble_eq_true rfl) ⟨Nat.le_of_ble_eq_true rfl, Nat.le_of_ble_eq_true rfl⟩ dX5_counsel_3 (fun H locs hP hS => ?_)
  refine jz_eq (tgt := 18) F dX5_counsel_6 (by decide) hf (fun hf => ?_) (fun hf => ?_)
  · refine lv_bipush (v := (-2 : Int32)) F.1.1 F.1.2.1 dX5_counsel_18 (by decide) ?_
    exact retI F hP hS dX5_counsel_20 hf
  · refine lv_iload_n F.1.1 F.1.2.1 dX5_counsel_9 rfl (lv_at hl 2 rfl) ?_
    refine lv_bipush (v := (9 : Int32)) F.1.1 F.1.2.1 dX5_counsel_10 (by decide) ?_
    obtain ⟨r_6, μ_4, hc_5, hf⟩ := bnd_some hf
    refine rS1 (R := rmX5_counsel) (As := [.int x2, .int (9 : Int32)]) (rest := []) F hP hS hl (mX5_isUpTo l G F.2.2.2.2 x2 (9 : Int32) _ _ _ hc_5) gX5_counsel_X5_isUpTo hdX5_isUpTo rfl rfl rfl ⟨Nat.le_of_ble_eq_true rfl, Nat.le_of_ble_eq_true rfl⟩ rfl rfl (Nat.le_of_ble_eq_true rfl) ⟨Nat.le_of_ble_eq_true rfl, Nat.le_of_ble_eq_true rfl⟩ dX5_counsel_12 (fun H locs hP hS => ?_)
    refine jz_ne (tgt := 21) F dX5_counsel_15 (by decide) hf (fun hf => ?_) (fun hf => ?_)
    · refine lv_aload_n F.1.1 F.1.2.1 dX5_counsel_21 rfl (lv_at hl 0 rfl) ?_
      refine gt_5_0 F hP 0 rfl inX5_counsel_5 kX5_counsel_12 dX5_counsel_22 ?_
      obtain ⟨r_9, μ_7, hc_8, hf⟩ := bnd_some hf
      refine rV1 (R := rmX5_counsel) (As := []) (rest := []) F hP hS hl (mX4_stands l G F.2.2.2.2 1 rfl _ _ _ hc_8) gX5_counsel_X4_stands rfl hdX4_stands rfl rfl rfl ⟨Nat.le_of_ble_eq_true rfl, Nat.le_of_ble_eq_true rfl⟩ (by decide) rfl rfl rfl (Nat.le_of_ble_eq_true rfl) ⟨Nat.le_of_ble_eq_true rfl, Nat.le_of_ble_eq_true rfl⟩ dX5_counsel_25 (fun H locs hP hS => ?_)
      refine jz_eq (tgt := 44) F dX5_counsel_28 (by decide) hf (fun hf => ?_) (fun hf => ?_)
      · refine lv_bipush (v := (-3 : Int32)) F.1.1 F.1.2.1 dX5_counsel_44 (by decide) ?_
        exact retI F hP hS dX5_counsel_46 hf
      · refine lv_aload_n F.1.1 F.1.2.1 dX5_counsel_31 rfl (lv_at hl 0 rfl) ?_
        refine gt_5_0 F hP 0 rfl inX5_counsel_5 kX5_counsel_12 dX5_counsel_32 ?_
        refine lv_iload_n F.1.1 F.1.2.1 dX5_counsel_35 rfl (lv_at hl 1 rfl) ?_
        refine lv_iload_n F.1.1 F.1.2.1 dX5_counsel_36 rfl (lv_at hl 2 rfl) ?_
        refine lv_isub F.1.1 F.1.2.1 dX5_counsel_37 ?_
        obtain ⟨r_12, μ_10, hc_11, hf⟩ := bnd_some hf
        refine rV1 (R := rmX5_counsel) (As := [.int (x1 - x2)]) (rest := []) F hP hS hl (mX4_counselBy l G F.2.2.2.2 1 rfl (x1 - x2) _ _ _ hc_11) gX5_counsel_X4_counselBy rfl hdX4_counselBy rfl rfl rfl ⟨Nat.le_of_ble_eq_true rfl, Nat.le_of_ble_eq_true rfl⟩ (by decide) rfl rfl rfl (Nat.le_of_ble_eq_true rfl) ⟨Nat.le_of_ble_eq_true rfl, Nat.le_of_ble_eq_true rfl⟩ dX5_counsel_38 (fun H locs hP hS => ?_)
        refine lv_goto (tgt := 46) F.1.1 F.1.2.1 dX5_counsel_41 (by decide) ?_
        exact retI F hP hS dX5_counsel_46 hf
    · refine lv_bipush (v := (-2 : Int32)) F.1.1 F.1.2.1 dX5_counsel_18 (by decide) ?_
      exact retI F hP hS dX5_counsel_20 hf
abbrev rmX4_unlikeTwos : Room := { frames := 0, cells := 0, slots := 0, locals := 0 }
theorem hdX4_unlikeTwos : yX4_unlikeTwos.cls = RX4 ∧ yX4_unlikeTwos.cls ≠ "java/lang/invoke/MethodHandle" ∧ yX4_unlikeTwos.cls ≠ "java/lang/invoke/VarHandle" ∧ (parseMethodDescriptor yX4_unlikeTwos.desc).map (fun d => d.parameters.length) = some 1 := by decide +kernel
theorem kX4_unlikeTwos_11 : Cond.fieldLink RX4 11 "PaperLayers$Wall" "layers" "[LPaperLayers$Layer;" ∈ wsX4_unlikeTwos := List.mem_cons_of_mem _ (List.mem_append_left _ (List.mem_append_left _ (List.mem_of_getElem? (i := 0) rfl)))
theorem kX4_unlikeTwos_43 : Cond.fieldLink RX4 43 "PaperLayers$Layer" "advice" "I" ∈ wsX4_unlikeTwos := List.mem_cons_of_mem _ (List.mem_append_left _ (List.mem_append_left _ (List.mem_of_getElem? (i := 1) rfl)))
theorem inX4_unlikeTwos_0 : ∀ w ∈ wsX00, w ∈ wsX4_unlikeTwos := fun _ h => List.mem_cons_of_mem _ (List.mem_append_right _ (h))
theorem inX4_unlikeTwos_4 : ∀ w ∈ wsX40, w ∈ wsX4_unlikeTwos := fun _ h => List.mem_cons_of_mem _ (List.mem_append_left _ (List.mem_append_right _ (h)))
set_option maxHeartbeats 4000000 in
set_option maxRecDepth 100000 in
theorem lX4_unlikeTwos_L14 (l : Launch) (G : GT) {p : Program} {e : Env} {s : State} {m : MethodId} {args : Array Value} {below : List Frame} {meth : Method} {c : Code} (F : Fx p s m args meth c cX4_unlikeTwos 5 wsX4_unlikeTwos RX4 (some .int) G) (K4 : Int32 → Int32 → Mem → Option (Int32 × Mem)) (w : Nat) (sw : sh w = 4) (x1 : Int32) (x3 : Int32) (r : Int32) (μ' : Mem) (ih4 : ∀ (x2 : Int32) (x3 : Int32) (μ : Mem) (H : Heap) (locs : List Loc) (ls : Array Slot), Hh G μ H → va_S (gA G) s.heap H locs → lv_has ls 5 [(0, .ref (ga G w)), (1, .int x1), (2, .int x2), (3, .int x3)] → K4 x2 x3 μ = some (r, μ') → W p l e rmX4_unlikeTwos s m args below meth c H locs 0 0 (MQ below (Qg G (some (.int r)) μ') args s 0 0 (gA G)) (F0 m 4 ls [])) : ∀ (fuel : Nat), ∀ (x2 : Int32) (x4 : Int32) (μ : Mem) (H : Heap) (locs : List Loc) (ls : Array Slot), Hh G μ H → va_S (gA G) s.heap H locs → lv_has ls 5 [(0, .ref (ga G w)), (1, .int x1), (2, .int x2), (3, .int x3), (4, .int x4)] → fX4_unlikeTwos_L14 K4 w x1 x3 fuel x2 x4 μ = some (r, μ') → W p l e rmX4_unlikeTwos s m args below meth c H locs 0 0 (MQ below (Qg G (some (.int r)) μ') args s 0 0 (gA G)) (F0 m 14 ls []) := by
  intro fuel
  induction fuel with
  | zero =>
    intro x2 x4 μ H locs ls hP hS hl hf
    exact absurd hf (by intro h; cases h)
  | succ fuel ih14 =>
    intro x2 x4 μ H locs ls hP hS hl hf
    have hf : sX4_unlikeTwos_L14 K4 (fX4_unlikeTwos_L14 K4 w x1 x3 fuel) w x1 x3 x2 x4 μ = some (r, μ') := hf
    unfold sX4_unlikeTwos_L14 at hf
    refine lv_iload F.1.1 F.1.2.1 dX4_unlikeTwos_14 (lv_at hl 4 rfl) ?_
    refine lv_iload_n F.1.1 F.1.2.1 dX4_unlikeTwos_16 rfl (lv_at hl 1 rfl) ?_
    refine jc_ge (tgt := 51) F dX4_unlikeTwos_17 (by decide) hf (fun hf => ?_) (fun hf => ?_)
    · refine top_n hf (fun y_2 ey_2 hf => ?_)
      refine lv_iinc (v := y_2) (lv' := [(3, .int y_2), (0, .ref (ga G w)), (1, .int x1), (2, .int x2), (4, .int x4)]) F.1.1 F.1.2.1 dX4_unlikeTwos_51 hl (k := 3) rfl ey_2 (by decide) rfl (fun ls hl => ?_)
      refine lv_goto (tgt := 4) F.1.1 F.1.2.1 dX4_unlikeTwos_54 (by decide) ?_
      exact ih4 x2 y_2 μ H locs ls hP hS (lv_sub hl [1, 2, 3, 0] rfl) hf
    · refine lv_aload_n F.1.1 F.1.2.1 dX4_unlikeTwos_20 rfl (lv_at hl 0 rfl) ?_
      refine gt_4_0 F hP w sw inX4_unlikeTwos_4 kX4_unlikeTwos_11 dX4_unlikeTwos_21 (fun s_3 => ?_)
      refine lv_iload F.1.1 F.1.2.1 dX4_unlikeTwos_24 (lv_at hl 4 rfl) ?_
      refine r_aaL F hP (w + 1) s_3 dX4_unlikeTwos_26 hf (fun s_4 hf => ?_)
      refine gt_0_2 F hP ((w + 1) + 1 + (x4).toNatClampNeg) s_4 inX4_unlikeTwos_0 kX4_unlikeTwos_43 dX4_unlikeTwos_27 ?_
      refine lv_aload_n F.1.1 F.1.2.1 dX4_unlikeTwos_30 rfl (lv_at hl 0 rfl) ?_
      refine gt_4_0 F hP w sw inX4_unlikeTwos_4 kX4_unlikeTwos_11 dX4_unlikeTwos_31 (fun s_5 => ?_)
      refine lv_iload_n F.1.1 F.1.2.1 dX4_unlikeTwos_34 rfl (lv_at hl 3 rfl) ?_
      refine r_aaL F hP (w + 1) s_5 dX4_unlikeTwos_35 hf (fun s_6 hf => ?_)
      refine gt_0_2 F hP ((w + 1) + 1 + (x3).toNatClampNeg) s_6 inX4_unlikeTwos_0 kX4_unlikeTwos_43 dX4_unlikeTwos_36 ?_
      refine jc_eq (tgt := 45) F dX4_unlikeTwos_39 (by decide) hf (fun hf => ?_) (fun hf => ?_)
      · refine top_n hf (fun y_7 ey_7 hf => ?_)
        refine lv_iinc (v := y_7) (lv' := [(4, .int y_7), (0, .ref (ga G w)), (1, .int x1), (2, .int x2), (3, .int x3)]) F.1.1 F.1.2.1 dX4_unlikeTwos_45 hl (k := 4) rfl ey_7 (by decide) rfl (fun ls hl => ?_)
        refine lv_goto (tgt := 14) F.1.1 F.1.2.1 dX4_unlikeTwos_48 (by decide) ?_
        exact ih14 x2 y_7 μ H locs ls hP hS (lv_sub hl [1, 2, 3, 4, 0] rfl) hf
      · refine top_n hf (fun y_8 ey_8 hf => ?_)
        refine lv_iinc (v := y_8) (lv' := [(2, .int y_8), (0, .ref (ga G w)), (1, .int x1), (3, .int x3), (4, .int x4)]) F.1.1 F.1.2.1 dX4_unlikeTwos_42 hl (k := 2) rfl ey_8 (by decide) rfl (fun ls hl => ?_)
        refine top_n hf (fun y_9 ey_9 hf => ?_)
        refine lv_iinc (v := y_9) (lv' := [(4, .int y_9), (2, .int y_8), (0, .ref (ga G w)), (1, .int x1), (3, .int x3)]) F.1.1 F.1.2.1 dX4_unlikeTwos_45 hl (k := 4) rfl ey_9 (by decide) rfl (fun ls hl => ?_)
        refine lv_goto (tgt := 14) F.1.1 F.1.2.1 dX4_unlikeTwos_48 (by decide) ?_
        exact ih14 y_8 y_9 μ H locs ls hP hS (lv_sub hl [2, 3, 1, 4, 0] rfl) hf
set_option maxHeartbeats 4000000 in
set_option maxRecDepth 100000 in
theorem lX4_unlikeTwos_L4 (l : Launch) (G : GT) {p : Program} {e : Env} {s : State} {m : MethodId} {args : Array Value} {below : List Frame} {meth : Method} {c : Code} (F : Fx p s m args meth c cX4_unlikeTwos 5 wsX4_unlikeTwos RX4 (some .int) G) (w : Nat) (sw : sh w = 4) (x1 : Int32) (r : Int32) (μ' : Mem) : ∀ (fuel : Nat), ∀ (x2 : Int32) (x3 : Int32) (μ : Mem) (H : Heap) (locs : List Loc) (ls : Array Slot), Hh G μ H → va_S (gA G) s.heap H locs → lv_has ls 5 [(0, .ref (ga G w)), (1, .int x1), (2, .int x2), (3, .int x3)] → fX4_unlikeTwos_L4 w x1 fuel x2 x3 μ = some (r, μ') → W p l e rmX4_unlikeTwos s m args below meth c H locs 0 0 (MQ below (Qg G (some (.int r)) μ') args s 0 0 (gA G)) (F0 m 4 ls []) := by
  intro fuel
  induction fuel with
  | zero =>
    intro x2 x3 μ H locs ls hP hS hl hf
    exact absurd hf (by intro h; cases h)
  | succ fuel ih4 =>
    intro x2 x3 μ H locs ls hP hS hl hf
    have hf : sX4_unlikeTwos_L4 (fX4_unlikeTwos_L4 w x1 fuel) w x1 x2 x3 μ = some (r, μ') := hf
    unfold sX4_unlikeTwos_L4 at hf
    refine lv_iload_n F.1.1 F.1.2.1 dX4_unlikeTwos_4 rfl (lv_at hl 3 rfl) ?_
    refine lv_iload_n F.1.1 F.1.2.1 dX4_unlikeTwos_5 rfl (lv_at hl 1 rfl) ?_
    refine jc_ge (tgt := 57) F dX4_unlikeTwos_6 (by decide) hf (fun hf => ?_) (fun hf => ?_)
    · refine lv_iload_n F.1.1 F.1.2.1 dX4_unlikeTwos_57 rfl (lv_at hl 2 rfl) ?_
      exact retI F hP hS dX4_unlikeTwos_58 hf
    · refine lv_iload_n F.1.1 F.1.2.1 dX4_unlikeTwos_9 rfl (lv_at hl 3 rfl) ?_
      refine lv_iconst (v := (1 : Int32)) F.1.1 F.1.2.1 dX4_unlikeTwos_10 (by decide) ?_
      refine lv_iadd F.1.1 F.1.2.1 dX4_unlikeTwos_11 ?_
      refine top_i hf (fun y_1 hf => ?_)
      refine lv_istore (lv' := [(4, .int y_1), (0, .ref (ga G w)), (1, .int x1), (2, .int x2), (3, .int x3)]) F.1.1 F.1.2.1 dX4_unlikeTwos_12 hl (by decide) rfl (fun ls hl => ?_)
      exact lX4_unlikeTwos_L14 l G F _ w sw x1 x3 _ _ ih4 FU x2 y_1 μ H locs ls hP hS (lv_sub hl [1, 2, 3, 4, 0] rfl) hf
set_option maxHeartbeats 4000000 in
set_option maxRecDepth 100000 in
theorem mX4_unlikeTwos (l : Launch) (G : GT) (hG : GD G) (w : Nat) (sw : sh w = 4) (x1 : Int32) (μ : Mem) (r : Int32) (μ' : Mem) (hf : fX4_unlikeTwos w x1 μ = some (r, μ')) : Ct l yX4_unlikeTwos wsX4_unlikeTwos rmX4_unlikeTwos G [.ref (ga G w), .int x1] μ (some (.int r)) μ' := by
  refine Ct.of (cc := cX4_unlikeTwos) (maxL := 5) (ret := (some .int)) (own := RX4) hG (by decide) rfl rfl (Nat.le_of_ble_eq_true rfl) ?_
  intro p e s m args below meth c ls H locs F hl hP hS
  have hl : lv_has ls 5 [(0, .ref (ga G w)), (1, .int x1)] := hl
  unfold fX4_unlikeTwos at hf
  refine lv_iconst (v := (0 : Int32)) F.1.1 F.1.2.1 dX4_unlikeTwos_0 (by decide) ?_
  refine lv_istore_n (lv' := [(2, .int (0 : Int32)), (0, .ref (ga G w)), (1, .int x1)]) F.1.1 F.1.2.1 dX4_unlikeTwos_1 rfl hl (by decide) rfl (fun ls hl => ?_)
  refine lv_iconst (v := (0 : Int32)) F.1.1 F.1.2.1 dX4_unlikeTwos_2 (by decide) ?_
  refine lv_istore_n (lv' := [(3, .int (0 : Int32)), (2, .int (0 : Int32)), (0, .ref (ga G w)), (1, .int x1)]) F.1.1 F.1.2.1 dX4_unlikeTwos_3 rfl hl (by decide) rfl (fun ls hl => ?_)
  exact lX4_unlikeTwos_L4 l G F w sw x1 _ _ FU (0 : Int32) (0 : Int32) μ H locs ls hP hS (lv_sub hl [2, 3, 1, 0] rfl) hf
abbrev rmX4_mostAlike : Room := { frames := 1, cells := 0, slots := 0, locals := 24 }
theorem hdX4_mostAlike : yX4_mostAlike.cls = RX4 ∧ yX4_mostAlike.cls ≠ "java/lang/invoke/MethodHandle" ∧ yX4_mostAlike.cls ≠ "java/lang/invoke/VarHandle" ∧ (parseMethodDescriptor yX4_mostAlike.desc).map (fun d => d.parameters.length) = some 1 := by decide +kernel
theorem kX4_mostAlike_11 : Cond.fieldLink RX4 11 "PaperLayers$Wall" "layers" "[LPaperLayers$Layer;" ∈ wsX4_mostAlike := List.mem_cons_of_mem _ (List.mem_append_left _ (List.mem_append_left _ (List.mem_of_getElem? (i := 0) rfl)))
theorem kX4_mostAlike_43 : Cond.fieldLink RX4 43 "PaperLayers$Layer" "advice" "I" ∈ wsX4_mostAlike := List.mem_cons_of_mem _ (List.mem_append_left _ (List.mem_append_left _ (List.mem_of_getElem? (i := 1) rfl)))
theorem kX4_mostAlike_50 : Cond.methodLink RX4 50 Lib.Math.max.name ∈ wsX4_mostAlike := List.mem_cons_of_mem _ (List.mem_append_left _ (List.mem_append_left _ (List.mem_of_getElem? (i := 2) rfl)))
theorem kX4_mostAlike_cdmax : Cond.code Lib.Math.max.name Lib.Math.max.code 2 (some .int) ∈ wsX4_mostAlike := List.mem_cons_of_mem _ (List.mem_append_left _ (List.mem_append_left _ (List.mem_of_getElem? (i := 5) rfl)))
theorem kX4_mostAlike_inM : Cond.initialized "java/lang/Math" ∈ wsX4_mostAlike := List.mem_cons_of_mem _ (List.mem_append_left _ (List.mem_append_left _ (List.mem_of_getElem? (i := 4) rfl)))
theorem kX4_mostAlike_stmax : Cond.static Lib.Math.max.name ∈ wsX4_mostAlike := List.mem_cons_of_mem _ (List.mem_append_left _ (List.mem_append_left _ (List.mem_of_getElem? (i := 3) rfl)))
theorem inX4_mostAlike_0 : ∀ w ∈ wsX00, w ∈ wsX4_mostAlike := fun _ h => List.mem_cons_of_mem _ (List.mem_append_right _ (h))
theorem inX4_mostAlike_4 : ∀ w ∈ wsX40, w ∈ wsX4_mostAlike := fun _ h => List.mem_cons_of_mem _ (List.mem_append_left _ (List.mem_append_right _ (h)))
set_option maxHeartbeats 4000000 in
set_option maxRecDepth 100000 in
theorem lX4_mostAlike_L12 (l : Launch) (G : GT) {p : Program} {e : Env} {s : State} {m : MethodId} {args : Array Value} {below : List Frame} {meth : Method} {c : Code} (F : Fx p s m args meth c cX4_mostAlike 6 wsX4_mostAlike RX4 (some .int) G) (w : Nat) (sw : sh w = 4) (x1 : Int32) (x2 : Int64) (r : Int32) (μ' : Mem) : ∀ (fuel : Nat), ∀ (x4 : Int32) (x5 : Int32) (μ : Mem) (H : Heap) (locs : List Loc) (ls : Array Slot), Hh G μ H → va_S (gA G) s.heap H locs → lv_has ls 6 [(0, .ref (ga G w)), (1, .int x1), (2, .long x2), (4, .int x4), (5, .int x5)] → fX4_mostAlike_L12 w x1 x2 fuel x4 x5 μ = some (r, μ') → W p l e rmX4_mostAlike s m args below meth c H locs 0 0 (MQ below (Qg G (some (.int r)) μ') args s 0 0 (gA G)) (F0 m 12 ls []) := by
  intro fuel
  induction fuel with
  | zero =>
    intro x4 x5 μ H locs ls hP hS hl hf
    exact absurd hf (by intro h; cases h)
  | succ fuel ih12 =>
    intro x4 x5 μ H locs ls hP hS hl hf
    have hf : sX4_mostAlike_L12 (fX4_mostAlike_L12 w x1 x2 fuel) w x1 x2 x4 x5 μ = some (r, μ') := hf
    unfold sX4_mostAlike_L12 at hf
    refine lv_iload F.1.1 F.1.2.1 dX4_mostAlike_12 (lv_at hl 4 rfl) ?_
    refine lv_iload_n F.1.1 F.1.2.1 dX4_mostAlike_14 rfl (lv_at hl 1 rfl) ?_
    refine jc_ge (tgt := 45) F dX4_mostAlike_15 (by decide) hf (fun hf => ?_) (fun hf => ?_)
    · refine lv_iload F.1.1 F.1.2.1 dX4_mostAlike_45 (lv_at hl 3 rfl) ?_
      exact retI F hP hS dX4_mostAlike_47 hf
    · refine lv_iload F.1.1 F.1.2.1 dX4_mostAlike_18 (lv_at hl 3 rfl) ?_
      refine lv_aload_n F.1.1 F.1.2.1 dX4_mostAlike_20 rfl (lv_at hl 0 rfl) ?_
      refine gt_4_0 F hP w sw inX4_mostAlike_4 kX4_mostAlike_11 dX4_mostAlike_21 (fun s_4 => ?_)
      refine lv_iload F.1.1 F.1.2.1 dX4_mostAlike_24 (lv_at hl 4 rfl) ?_
      refine r_aaL F hP (w + 1) s_4 dX4_mostAlike_26 hf (fun s_5 hf => ?_)
      refine gt_0_2 F hP ((w + 1) + 1 + (x5).toNatClampNeg) s_5 inX4_mostAlike_0 kX4_mostAlike_43 dX4_mostAlike_27 ?_
      refine lv_lload_n F.1.1 F.1.2.1 dX4_mostAlike_30 rfl (lv_at hl 2 rfl) ?_
      obtain ⟨r_8, μ_6, hc_7, hf⟩ := bnd_some hf
      refine rS1 (R := rmX4_mostAlike) (As := [.int (μ ((w + 1) + 1 + (x5).toNatClampNeg) 2), .long x2]) (rest := [.int x4]) F hP hS hl (mX4_votesFor l G F.2.2.2.2 (μ ((w + 1) + 1 + (x5).toNatClampNeg) 2) x2 _ _ _ hc_7) gX4_mostAlike_X4_votesFor hdX4_votesFor rfl rfl rfl ⟨Nat.le_of_ble_eq_true rfl, Nat.le_of_ble_eq_true rfl⟩ rfl rfl (Nat.le_of_ble_eq_true rfl) ⟨Nat.le_of_ble_eq_true rfl, Nat.le_of_ble_eq_true rfl⟩ dX4_mostAlike_31 (fun H locs hP hS => ?_)
      refine va_mmax (R := rmX4_mostAlike) F.1.1 F.1.2.1 (F.1.2.2.1.trans hl.1.symm) F.1.2.2.2.1 (F.1.2.2.2.2 _ kX4_mostAlike_50) (F.1.2.2.2.2 _ kX4_mostAlike_stmax) (F.1.2.2.2.2 _ kX4_mostAlike_inM) (F.1.2.2.2.2 _ kX4_mostAlike_cdmax) (Nat.le_of_ble_eq_true rfl) (Nat.le_of_ble_eq_true rfl) (Nat.le_of_ble_eq_true rfl) (Nat.le_of_ble_eq_true rfl) dX4_mostAlike_34 ?_
      refine top_i hf (fun y_9 hf => ?_)
      refine lv_istore (lv' := [(4, .int y_9), (0, .ref (ga G w)), (1, .int x1), (2, .long x2), (5, .int x5)]) F.1.1 F.1.2.1 dX4_mostAlike_37 hl (by decide) rfl (fun ls hl => ?_)
      refine top_n hf (fun y_10 ey_10 hf => ?_)
      refine lv_iinc (v := y_10) (lv' := [(5, .int y_10), (4, .int y_9), (0, .ref (ga G w)), (1, .int x1), (2, .long x2)]) F.1.1 F.1.2.1 dX4_mostAlike_39 hl (k := 4) rfl ey_10 (by decide) rfl (fun ls hl => ?_)
      refine lv_goto (tgt := 12) F.1.1 F.1.2.1 dX4_mostAlike_42 (by decide) ?_
      exact ih12 y_9 y_10 μ_6 H locs ls hP hS (lv_sub hl [2, 3, 4, 1, 0] rfl) hf
set_option maxHeartbeats 4000000 in
set_option maxRecDepth 100000 in
theorem mX4_mostAlike (l : Launch) (G : GT) (hG : GD G) (w : Nat) (sw : sh w = 4) (x1 : Int32) (μ : Mem) (r : Int32) (μ' : Mem) (hf : fX4_mostAlike w x1 μ = some (r, μ')) : Ct l yX4_mostAlike wsX4_mostAlike rmX4_mostAlike G [.ref (ga G w), .int x1] μ (some (.int r)) μ' := by
  refine Ct.of (cc := cX4_mostAlike) (maxL := 6) (ret := (some .int)) (own := RX4) hG (by decide) rfl rfl (Nat.le_of_ble_eq_true rfl) ?_
  intro p e s m args below meth c ls H locs F hl hP hS
  have hl : lv_has ls 6 [(0, .ref (ga G w)), (1, .int x1)] := hl
  unfold fX4_mostAlike at hf
  refine lv_aload_n F.1.1 F.1.2.1 dX4_mostAlike_0 rfl (lv_at hl 0 rfl) ?_
  refine lv_iload_n F.1.1 F.1.2.1 dX4_mostAlike_1 rfl (lv_at hl 1 rfl) ?_
  obtain ⟨r_3, μ_1, hc_2, hf⟩ := bnd_some hf
  refine rV1 (R := rmX4_mostAlike) (As := [.int x1]) (rest := []) F hP hS hl (mX4_votesOf l G F.2.2.2.2 w sw x1 _ _ _ hc_2) gX4_mostAlike_X4_votesOf sw hdX4_votesOf rfl rfl rfl ⟨Nat.le_of_ble_eq_true rfl, Nat.le_of_ble_eq_true rfl⟩ (by decide) rfl rfl rfl (Nat.le_of_ble_eq_true rfl) ⟨Nat.le_of_ble_eq_true rfl, Nat.le_of_ble_eq_true rfl⟩ dX4_mostAlike_2 (fun H locs hP hS => ?_)
  refine lv_lstore_n (lv' := [(2, .long r_3), (0, .ref (ga G w)), (1, .int x1)]) F.1.1 F.1.2.1 dX4_mostAlike_5 rfl hl (by decide) rfl (fun ls hl => ?_)
  refine lv_iconst (v := (0 : Int32)) F.1.1 F.1.2.1 dX4_mostAlike_6 (by decide) ?_
  refine lv_istore (lv' := [(4, .int (0 : Int32)), (2, .long r_3), (0, .ref (ga G w)), (1, .int x1)]) F.1.1 F.1.2.1 dX4_mostAlike_7 hl (by decide) rfl (fun ls hl => ?_)
  refine lv_iconst (v := (0 : Int32)) F.1.1 F.1.2.1 dX4_mostAlike_9 (by decide) ?_
  refine lv_istore (lv' := [(5, .int (0 : Int32)), (4, .int (0 : Int32)), (2, .long r_3), (0, .ref (ga G w)), (1, .int x1)]) F.1.1 F.1.2.1 dX4_mostAlike_10 hl (by decide) rfl (fun ls hl => ?_)
  exact lX4_mostAlike_L12 l G F w sw x1 r_3 _ _ FU (0 : Int32) (0 : Int32) μ_1 H locs ls hP hS (lv_sub hl [3, 4, 2, 1, 0] rfl) hf
abbrev rmX5_clash : Room := { frames := 2, cells := 0, slots := 0, locals := 49 }
theorem hdX5_clash : yX5_clash.cls = RX5 ∧ yX5_clash.cls ≠ "java/lang/invoke/MethodHandle" ∧ yX5_clash.cls ≠ "java/lang/invoke/VarHandle" ∧ (parseMethodDescriptor yX5_clash.desc).map (fun d => d.parameters.length) = some 1 := by decide +kernel
theorem kX5_clash_12 : Cond.fieldLink RX5 12 "PaperLayers" "now" "LPaperLayers$Wall;" ∈ wsX5_clash := List.mem_cons_of_mem _ (List.mem_append_left _ (List.mem_append_left _ (List.mem_append_left _ (List.mem_append_left _ (List.mem_of_getElem? (i := 0) rfl)))))
theorem inX5_clash_5 : ∀ w ∈ wsX50, w ∈ wsX5_clash := fun _ h => List.mem_cons_of_mem _ (List.mem_append_left _ (List.mem_append_left _ (List.mem_append_right _ (h))))
set_option maxHeartbeats 4000000 in
set_option maxRecDepth 100000 in
theorem mX5_clash (l : Launch) (G : GT) (hG : GD G) (x1 : Int32) (μ : Mem) (r : Int32) (μ' : Mem) (hf : fX5_clash x1 μ = some (r, μ')) : Ct l yX5_clash wsX5_clash rmX5_clash G [.ref (ga G 0), .int x1] μ (some (.int r)) μ' := by
  refine Ct.of (cc := cX5_clash) (maxL := 3) (ret := (some .int)) (own := RX5) hG (by decide) rfl rfl (Nat.le_of_ble_eq_true rfl) ?_
  intro p e s m args below meth c ls H locs F hl hP hS
  have hl : lv_has ls 3 [(0, .ref (ga G 0)), (1, .int x1)] := hl
  unfold fX5_clash at hf
  refine lv_iload_n F.1.1 F.1.2.1 dX5_clash_0 rfl (lv_at hl 1 rfl) ?_
  refine lv_iconst (v := (1 : Int32)) F.1.1 F.1.2.1 dX5_clash_1 (by decide) ?_
  obtain ⟨r_3, μ_1, hc_2, hf⟩ := bnd_some hf
  refine rS1 (R := rmX5_clash) (As := [.int x1, .int (1 : Int32)]) (rest := []) F hP hS hl (mX5_isUpTo l G F.2.2.2.2 x1 (1 : Int32) _ _ _ hc_2) gX5_clash_X5_isUpTo hdX5_isUpTo rfl rfl rfl ⟨Nat.le_of_ble_eq_true rfl, Nat.le_of_ble_eq_true rfl⟩ rfl rfl (Nat.le_of_ble_eq_true rfl) ⟨Nat.le_of_ble_eq_true rfl, Nat.le_of_ble_eq_true rfl⟩ dX5_clash_2 (fun H locs hP hS => ?_)
  refine jz_ne (tgt := 11) F dX5_clash_5 (by decide) hf (fun hf => ?_) (fun hf => ?_)
  · refine lv_aload_n F.1.1 F.1.2.1 dX5_clash_11 rfl (lv_at hl 0 rfl) ?_
    refine gt_5_0 F hP 0 rfl inX5_clash_5 kX5_clash_12 dX5_clash_12 ?_
    obtain ⟨r_6, μ_4, hc_5, hf⟩ := bnd_some hf
    refine rV1 (R := rmX5_clash) (As := []) (rest := []) F hP hS hl (mX4_stands l G F.2.2.2.2 1 rfl _ _ _ hc_5) gX5_clash_X4_stands rfl hdX4_stands rfl rfl rfl ⟨Nat.le_of_ble_eq_true rfl, Nat.le_of_ble_eq_true rfl⟩ (by decide) rfl rfl rfl (Nat.le_of_ble_eq_true rfl) ⟨Nat.le_of_ble_eq_true rfl, Nat.le_of_ble_eq_true rfl⟩ dX5_clash_15 (fun H locs hP hS => ?_)
    refine jz_ne (tgt := 24) F dX5_clash_18 (by decide) hf (fun hf => ?_) (fun hf => ?_)
    · refine lv_aload_n F.1.1 F.1.2.1 dX5_clash_24 rfl (lv_at hl 0 rfl) ?_
      refine gt_5_0 F hP 0 rfl inX5_clash_5 kX5_clash_12 dX5_clash_25 ?_
      refine lv_aload_n F.1.1 F.1.2.1 dX5_clash_28 rfl (lv_at hl 0 rfl) ?_
      refine gt_5_0 F hP 0 rfl inX5_clash_5 kX5_clash_12 dX5_clash_29 ?_
      obtain ⟨r_9, μ_7, hc_8, hf⟩ := bnd_some hf
      refine rV1 (R := rmX5_clash) (As := []) (rest := [.ref (ga G 1)]) F hP hS hl (mX4_warmth l G F.2.2.2.2 1 rfl _ _ _ hc_8) gX5_clash_X4_warmth rfl hdX4_warmth rfl rfl rfl ⟨Nat.le_of_ble_eq_true rfl, Nat.le_of_ble_eq_true rfl⟩ (by decide) rfl rfl rfl (Nat.le_of_ble_eq_true rfl) ⟨Nat.le_of_ble_eq_true rfl, Nat.le_of_ble_eq_true rfl⟩ dX5_clash_32 (fun H locs hP hS => ?_)
      obtain ⟨r_12, μ_10, hc_11, hf⟩ := bnd_some hf
      refine rV1 (R := rmX5_clash) (As := [.int r_9]) (rest := []) F hP hS hl (mX4_heardBy l G F.2.2.2.2 1 rfl r_9 _ _ _ hc_11) gX5_clash_X4_heardBy rfl hdX4_heardBy rfl rfl rfl ⟨Nat.le_of_ble_eq_true rfl, Nat.le_of_ble_eq_true rfl⟩ (by decide) rfl rfl rfl (Nat.le_of_ble_eq_true rfl) ⟨Nat.le_of_ble_eq_true rfl, Nat.le_of_ble_eq_true rfl⟩ dX5_clash_35 (fun H locs hP hS => ?_)
      refine lv_istore_n (lv' := [(2, .int r_12), (0, .ref (ga G 0)), (1, .int x1)]) F.1.1 F.1.2.1 dX5_clash_38 rfl hl (by decide) rfl (fun ls hl => ?_)
      refine lv_iload_n F.1.1 F.1.2.1 dX5_clash_39 rfl (lv_at hl 2 rfl) ?_
      refine jz_ne (tgt := 54) F dX5_clash_40 (by decide) hf (fun hf => ?_) (fun hf => ?_)
      · refine lv_iload_n F.1.1 F.1.2.1 dX5_clash_54 rfl (lv_at hl 0 rfl) ?_
        refine lv_aload_n F.1.1 F.1.2.1 dX5_clash_55 rfl (lv_at hl 1 rfl) ?_
        refine gt_5_0 F hP 0 rfl inX5_clash_5 kX5_clash_12 dX5_clash_56 ?_
        refine lv_iload_n F.1.1 F.1.2.1 dX5_clash_59 rfl (lv_at hl 0 rfl) ?_
        obtain ⟨r_15, μ_13, hc_14, hf⟩ := bnd_some hf
        refine rV1 (R := rmX5_clash) (As := [.int r_12]) (rest := [.int r_12]) F hP hS hl (mX4_mostAlike l G F.2.2.2.2 1 rfl r_12 _ _ _ hc_14) gX5_clash_X4_mostAlike rfl hdX4_mostAlike rfl rfl rfl ⟨Nat.le_of_ble_eq_true rfl, Nat.le_of_ble_eq_true rfl⟩ (by decide) rfl rfl rfl (Nat.le_of_ble_eq_true rfl) ⟨Nat.le_of_ble_eq_true rfl, Nat.le_of_ble_eq_true rfl⟩ dX5_clash_60 (fun H locs hP hS => ?_)
        refine lv_isub F.1.1 F.1.2.1 dX5_clash_63 ?_
        exact retI F hP hS dX5_clash_64 hf
      · refine lv_aload_n F.1.1 F.1.2.1 dX5_clash_43 rfl (lv_at hl 1 rfl) ?_
        refine gt_5_0 F hP 0 rfl inX5_clash_5 kX5_clash_12 dX5_clash_44 ?_
        refine lv_iload_n F.1.1 F.1.2.1 dX5_clash_47 rfl (lv_at hl 0 rfl) ?_
        obtain ⟨r_18, μ_16, hc_17, hf⟩ := bnd_some hf
        refine rV1 (R := rmX5_clash) (As := [.int r_12]) (rest := []) F hP hS hl (mX4_unlikeTwos l G F.2.2.2.2 1 rfl r_12 _ _ _ hc_17) gX5_clash_X4_unlikeTwos rfl hdX4_unlikeTwos rfl rfl rfl ⟨Nat.le_of_ble_eq_true rfl, Nat.le_of_ble_eq_true rfl⟩ (by decide) rfl rfl rfl (Nat.le_of_ble_eq_true rfl) ⟨Nat.le_of_ble_eq_true rfl, Nat.le_of_ble_eq_true rfl⟩ dX5_clash_48 (fun H locs hP hS => ?_)
        refine lv_goto (tgt := 64) F.1.1 F.1.2.1 dX5_clash_51 (by decide) ?_
        exact retI F hP hS dX5_clash_64 hf
    · refine lv_bipush (v := (-3 : Int32)) F.1.1 F.1.2.1 dX5_clash_21 (by decide) ?_
      exact retI F hP hS dX5_clash_23 hf
  · refine lv_bipush (v := (-2 : Int32)) F.1.1 F.1.2.1 dX5_clash_8 (by decide) ?_
    exact retI F hP hS dX5_clash_10 hf
abbrev rmX0_becomeLike : Room := { frames := 1, cells := 0, slots := 0, locals := 23 }
theorem hdX0_becomeLike : yX0_becomeLike.cls = RX0 ∧ yX0_becomeLike.cls ≠ "java/lang/invoke/MethodHandle" ∧ yX0_becomeLike.cls ≠ "java/lang/invoke/VarHandle" ∧ (parseMethodDescriptor yX0_becomeLike.desc).map (fun d => d.parameters.length) = some 1 := by decide +kernel
theorem kX0_becomeLike_15 : Cond.fieldLink RX0 15 "PaperLayers$Layer" "hold" "I" ∈ wsX0_becomeLike := List.mem_cons_of_mem _ (List.mem_append_left _ (List.mem_of_getElem? (i := 1) rfl))
theorem kX0_becomeLike_18 : Cond.fieldLink RX0 18 "PaperLayers$Layer" "advice" "I" ∈ wsX0_becomeLike := List.mem_cons_of_mem _ (List.mem_append_left _ (List.mem_of_getElem? (i := 2) rfl))
theorem kX0_becomeLike_9 : Cond.fieldLink RX0 9 "PaperLayers$Layer" "kind" "I" ∈ wsX0_becomeLike := List.mem_cons_of_mem _ (List.mem_append_left _ (List.mem_of_getElem? (i := 0) rfl))
theorem inX0_becomeLike_0 : ∀ w ∈ wsX00, w ∈ wsX0_becomeLike := fun _ h => List.mem_cons_of_mem _ (List.mem_append_right _ (h))
set_option maxHeartbeats 4000000 in
set_option maxRecDepth 100000 in
theorem mX0_becomeLike (l : Launch) (G : GT) (hG : GD G) (i : Nat) (si : sh i = 0) (j1 : Nat) (sj1 : sh j1 = 0) (μ : Mem) (r : Unit) (μ' : Mem) (hf : fX0_becomeLike i j1 μ = some (r, μ')) : Ct l yX0_becomeLike wsX0_becomeLike rmX0_becomeLike G [.ref (ga G i), .ref (ga G j1)] μ none μ' := by
  refine Ct.of (cc := cX0_becomeLike) (maxL := 2) (ret := none) (own := RX0) hG (by decide) rfl rfl (Nat.le_of_ble_eq_true rfl) ?_
  intro p e s m args below meth c ls H locs F hl hP hS
  have hl : lv_has ls 2 [(0, .ref (ga G i)), (1, .ref (ga G j1))] := hl
  unfold fX0_becomeLike at hf
  refine lv_aload_n F.1.1 F.1.2.1 dX0_becomeLike_0 rfl (lv_at hl 0 rfl) ?_
  refine lv_aload_n F.1.1 F.1.2.1 dX0_becomeLike_1 rfl (lv_at hl 1 rfl) ?_
  refine gt_0_0 F hP j1 sj1 inX0_becomeLike_0 kX0_becomeLike_9 dX0_becomeLike_2 ?_
  refine lv_aload_n F.1.1 F.1.2.1 dX0_becomeLike_5 rfl (lv_at hl 1 rfl) ?_
  refine gt_0_1 F hP j1 sj1 inX0_becomeLike_0 kX0_becomeLike_15 dX0_becomeLike_6 ?_
  refine lv_aload_n F.1.1 F.1.2.1 dX0_becomeLike_9 rfl (lv_at hl 1 rfl) ?_
  refine gt_0_2 F hP j1 sj1 inX0_becomeLike_0 kX0_becomeLike_18 dX0_becomeLike_10 ?_
  obtain ⟨u_3, μ_1, hc_2, hf⟩ := bnd_some hf
  refine rVv (R := rmX0_becomeLike) (As := [.int (μ j1 0), .int (μ j1 1), .int (μ j1 2)]) (rest := []) F hP hS hl (mX0_become l G F.2.2.2.2 i si (μ j1 0) (μ j1 1) (μ j1 2) _ _ _ hc_2) gX0_becomeLike_X0_become si hdX0_become rfl rfl rfl ⟨Nat.le_of_ble_eq_true rfl, Nat.le_of_ble_eq_true rfl⟩ (by decide) rfl rfl rfl (Nat.le_of_ble_eq_true rfl) ⟨Nat.le_of_ble_eq_true rfl, Nat.le_of_ble_eq_true rfl⟩ dX0_becomeLike_13 (fun H locs hP hS => ?_)
  exact retV F hP hS dX0_becomeLike_16 hf
abbrev rmX4_layOnTop : Room := { frames := 2, cells := 0, slots := 0, locals := 44 }
theorem hdX4_layOnTop : yX4_layOnTop.cls = RX4 ∧ yX4_layOnTop.cls ≠ "java/lang/invoke/MethodHandle" ∧ yX4_layOnTop.cls ≠ "java/lang/invoke/VarHandle" ∧ (parseMethodDescriptor yX4_layOnTop.desc).map (fun d => d.parameters.length) = some 3 := by decide +kernel
theorem kX4_layOnTop_11 : Cond.fieldLink RX4 11 "PaperLayers$Wall" "layers" "[LPaperLayers$Layer;" ∈ wsX4_layOnTop := List.mem_cons_of_mem _ (List.mem_append_left _ (List.mem_append_left _ (List.mem_of_getElem? (i := 1) rfl)))
theorem kX4_layOnTop_18 : Cond.fieldLink RX4 18 "PaperLayers$Wall" "count" "I" ∈ wsX4_layOnTop := List.mem_cons_of_mem _ (List.mem_append_left _ (List.mem_append_left _ (List.mem_of_getElem? (i := 0) rfl)))
theorem inX4_layOnTop_4 : ∀ w ∈ wsX40, w ∈ wsX4_layOnTop := fun _ h => List.mem_cons_of_mem _ (List.mem_append_left _ (List.mem_append_right _ (h)))
set_option maxHeartbeats 4000000 in
set_option maxRecDepth 100000 in
theorem lX4_layOnTop_L17 (l : Launch) (G : GT) {p : Program} {e : Env} {s : State} {m : MethodId} {args : Array Value} {below : List Frame} {meth : Method} {c : Code} (F : Fx p s m args meth c cX4_layOnTop 5 wsX4_layOnTop RX4 (some .boolean) G) (w : Nat) (sw : sh w = 4) (x1 : Int32) (x2 : Int32) (x3 : Int32) (r : Int32) (μ' : Mem) : ∀ (fuel : Nat), ∀ (x4 : Int32) (μ : Mem) (H : Heap) (locs : List Loc) (ls : Array Slot), Hh G μ H → va_S (gA G) s.heap H locs → lv_has ls 5 [(0, .ref (ga G w)), (1, .int x1), (2, .int x2), (3, .int x3), (4, .int x4)] → fX4_layOnTop_L17 w x1 x2 x3 fuel x4 μ = some (r, μ') → W p l e rmX4_layOnTop s m args below meth c H locs 0 0 (MQ below (Qg G (some (.int r)) μ') args s 0 0 (gA G)) (F0 m 17 ls []) := by
  intro fuel
  induction fuel with
  | zero =>
    intro x4 μ H locs ls hP hS hl hf
    exact absurd hf (by intro h; cases h)
  | succ fuel ih17 =>
    intro x4 μ H locs ls hP hS hl hf
    have hf : sX4_layOnTop_L17 (fX4_layOnTop_L17 w x1 x2 x3 fuel) w x1 x2 x3 x4 μ = some (r, μ') := hf
    unfold sX4_layOnTop_L17 at hf
    refine lv_iload F.1.1 F.1.2.1 dX4_layOnTop_17 (lv_at hl 4 rfl) ?_
    refine jz_le (tgt := 47) F dX4_layOnTop_19 (by decide) hf (fun hf => ?_) (fun hf => ?_)
    · refine lv_aload_n F.1.1 F.1.2.1 dX4_layOnTop_47 rfl (lv_at hl 0 rfl) ?_
      refine gt_4_0 F hP w sw inX4_layOnTop_4 kX4_layOnTop_11 dX4_layOnTop_48 (fun s_2 => ?_)
      refine lv_iconst (v := (0 : Int32)) F.1.1 F.1.2.1 dX4_layOnTop_51 (by decide) ?_
      refine r_aaL F hP (w + 1) s_2 dX4_layOnTop_52 hf (fun s_3 hf => ?_)
      refine lv_iload_n F.1.1 F.1.2.1 dX4_layOnTop_53 rfl (lv_at hl 1 rfl) ?_
      refine lv_iload_n F.1.1 F.1.2.1 dX4_layOnTop_54 rfl (lv_at hl 2 rfl) ?_
      refine lv_iload_n F.1.1 F.1.2.1 dX4_layOnTop_55 rfl (lv_at hl 3 rfl) ?_
      obtain ⟨u_6, μ_4, hc_5, hf⟩ := bnd_some hf
      refine rVv (R := rmX4_layOnTop) (As := [.int x1, .int x2, .int x3]) (rest := []) F hP hS hl (mX0_become l G F.2.2.2.2 ((w + 1) + 1 + ((0 : Int32)).toNatClampNeg) s_3 x1 x2 x3 _ _ _ hc_5) gX4_layOnTop_X0_become s_3 hdX0_become rfl rfl rfl ⟨Nat.le_of_ble_eq_true rfl, Nat.le_of_ble_eq_true rfl⟩ (by decide) rfl rfl rfl (Nat.le_of_ble_eq_true rfl) ⟨Nat.le_of_ble_eq_true rfl, Nat.le_of_ble_eq_true rfl⟩ dX4_layOnTop_56 (fun H locs hP hS => ?_)
      refine lv_aload_n F.1.1 F.1.2.1 dX4_layOnTop_59 rfl (lv_at hl 0 rfl) ?_
      refine lv_dup F.1.1 F.1.2.1 dX4_layOnTop_60 rfl ?_
      refine gt_4_1 F hP w sw inX4_layOnTop_4 kX4_layOnTop_18 dX4_layOnTop_61 ?_
      refine lv_iconst (v := (1 : Int32)) F.1.1 F.1.2.1 dX4_layOnTop_64 (by decide) ?_
      refine lv_iadd F.1.1 F.1.2.1 dX4_layOnTop_65 ?_
      refine pt_4_1 F hP hS w sw inX4_layOnTop_4 kX4_layOnTop_18 dX4_layOnTop_66 hf (fun μ_7 H locs hP hS hf => ?_)
      refine lv_iconst (v := (1 : Int32)) F.1.1 F.1.2.1 dX4_layOnTop_69 (by decide) ?_
      exact retC F hP hS dX4_layOnTop_70 (by decide) hf
    · refine lv_aload_n F.1.1 F.1.2.1 dX4_layOnTop_22 rfl (lv_at hl 0 rfl) ?_
      refine gt_4_0 F hP w sw inX4_layOnTop_4 kX4_layOnTop_11 dX4_layOnTop_23 (fun s_8 => ?_)
      refine lv_iload F.1.1 F.1.2.1 dX4_layOnTop_26 (lv_at hl 4 rfl) ?_
      refine r_aaL F hP (w + 1) s_8 dX4_layOnTop_28 hf (fun s_9 hf => ?_)
      refine lv_aload_n F.1.1 F.1.2.1 dX4_layOnTop_29 rfl (lv_at hl 0 rfl) ?_
      refine gt_4_0 F hP w sw inX4_layOnTop_4 kX4_layOnTop_11 dX4_layOnTop_30 (fun s_10 => ?_)
      refine lv_iload F.1.1 F.1.2.1 dX4_layOnTop_33 (lv_at hl 4 rfl) ?_
      refine lv_iconst (v := (1 : Int32)) F.1.1 F.1.2.1 dX4_layOnTop_35 (by decide) ?_
      refine lv_isub F.1.1 F.1.2.1 dX4_layOnTop_36 ?_
      refine r_aaL F hP (w + 1) s_10 dX4_layOnTop_37 hf (fun s_11 hf => ?_)
      obtain ⟨u_14, μ_12, hc_13, hf⟩ := bnd_some hf
      refine rVv (R := rmX4_layOnTop) (As := [.ref (ga G ((w + 1) + 1 + ((x4 - (1 : Int32))).toNatClampNeg))]) (rest := []) F hP hS hl (mX0_becomeLike l G F.2.2.2.2 ((w + 1) + 1 + (x4).toNatClampNeg) s_9 ((w + 1) + 1 + ((x4 - (1 : Int32))).toNatClampNeg) s_11 _ _ _ hc_13) gX4_layOnTop_X0_becomeLike s_9 hdX0_becomeLike rfl rfl rfl ⟨Nat.le_of_ble_eq_true rfl, Nat.le_of_ble_eq_true rfl⟩ (by decide) rfl rfl rfl (Nat.le_of_ble_eq_true rfl) ⟨Nat.le_of_ble_eq_true rfl, Nat.le_of_ble_eq_true rfl⟩ dX4_layOnTop_38 (fun H locs hP hS => ?_)
      refine top_n hf (fun y_15 ey_15 hf => ?_)
      refine lv_iinc (v := y_15) (lv' := [(4, .int y_15), (0, .ref (ga G w)), (1, .int x1), (2, .int x2), (3, .int x3)]) F.1.1 F.1.2.1 dX4_layOnTop_41 hl (k := 4) rfl ey_15 (by decide) rfl (fun ls hl => ?_)
      refine lv_goto (tgt := 17) F.1.1 F.1.2.1 dX4_layOnTop_44 (by decide) ?_
      exact ih17 y_15 μ_12 H locs ls hP hS (lv_sub hl [1, 2, 3, 4, 0] rfl) hf
set_option maxHeartbeats 4000000 in
set_option maxRecDepth 100000 in
theorem mX4_layOnTop (l : Launch) (G : GT) (hG : GD G) (w : Nat) (sw : sh w = 4) (x1 : Int32) (x2 : Int32) (x3 : Int32) (μ : Mem) (r : Int32) (μ' : Mem) (hf : fX4_layOnTop w x1 x2 x3 μ = some (r, μ')) : Ct l yX4_layOnTop wsX4_layOnTop rmX4_layOnTop G [.ref (ga G w), .int x1, .int x2, .int x3] μ (some (.int r)) μ' := by
  refine Ct.of (cc := cX4_layOnTop) (maxL := 5) (ret := (some .boolean)) (own := RX4) hG (by decide) rfl rfl (Nat.le_of_ble_eq_true rfl) ?_
  intro p e s m args below meth c ls H locs F hl hP hS
  have hl : lv_has ls 5 [(0, .ref (ga G w)), (1, .int x1), (2, .int x2), (3, .int x3)] := hl
  unfold fX4_layOnTop at hf
  refine lv_aload_n F.1.1 F.1.2.1 dX4_layOnTop_0 rfl (lv_at hl 0 rfl) ?_
  refine gt_4_1 F hP w sw inX4_layOnTop_4 kX4_layOnTop_18 dX4_layOnTop_1 ?_
  refine lv_bipush (v := (6 : Int32)) F.1.1 F.1.2.1 dX4_layOnTop_4 (by decide) ?_
  refine jc_lt (tgt := 11) F dX4_layOnTop_6 (by decide) hf (fun hf => ?_) (fun hf => ?_)
  · refine lv_aload_n F.1.1 F.1.2.1 dX4_layOnTop_11 rfl (lv_at hl 0 rfl) ?_
    refine gt_4_1 F hP w sw inX4_layOnTop_4 kX4_layOnTop_18 dX4_layOnTop_12 ?_
    refine top_i hf (fun y_1 hf => ?_)
    refine lv_istore (lv' := [(4, .int y_1), (0, .ref (ga G w)), (1, .int x1), (2, .int x2), (3, .int x3)]) F.1.1 F.1.2.1 dX4_layOnTop_15 hl (by decide) rfl (fun ls hl => ?_)
    exact lX4_layOnTop_L17 l G F w sw x1 x2 x3 _ _ FU y_1 μ H locs ls hP hS (lv_sub hl [1, 2, 3, 4, 0] rfl) hf
  · refine lv_iconst (v := (0 : Int32)) F.1.1 F.1.2.1 dX4_layOnTop_9 (by decide) ?_
    exact retC F hP hS dX4_layOnTop_10 (by decide) hf
abbrev rmX5_putUp : Room := { frames := 3, cells := 0, slots := 0, locals := 68 }
theorem hdX5_putUp : yX5_putUp.cls = RX5 ∧ yX5_putUp.cls ≠ "java/lang/invoke/MethodHandle" ∧ yX5_putUp.cls ≠ "java/lang/invoke/VarHandle" ∧ (parseMethodDescriptor yX5_putUp.desc).map (fun d => d.parameters.length) = some 3 := by decide +kernel
theorem kX5_putUp_12 : Cond.fieldLink RX5 12 "PaperLayers" "now" "LPaperLayers$Wall;" ∈ wsX5_putUp := List.mem_cons_of_mem _ (List.mem_append_left _ (List.mem_append_left _ (List.mem_append_left _ (List.mem_append_left _ (List.mem_of_getElem? (i := 0) rfl)))))
theorem kX5_putUp_76 : Cond.fieldLink RX5 76 "PaperLayers$Wall" "count" "I" ∈ wsX5_putUp := List.mem_cons_of_mem _ (List.mem_append_left _ (List.mem_append_left _ (List.mem_append_left _ (List.mem_append_left _ (List.mem_of_getElem? (i := 1) rfl)))))
theorem inX5_putUp_4 : ∀ w ∈ wsX40, w ∈ wsX5_putUp := fun _ h => List.mem_cons_of_mem _ (List.mem_append_left _ (List.mem_append_right _ (h)))
theorem inX5_putUp_5 : ∀ w ∈ wsX50, w ∈ wsX5_putUp := fun _ h => List.mem_cons_of_mem _ (List.mem_append_left _ (List.mem_append_left _ (List.mem_append_right _ (h))))
set_option maxHeartbeats 4000000 in
set_option maxRecDepth 100000 in
theorem mX5_putUp (l : Launch) (G : GT) (hG : GD G) (x1 : Int32) (x2 : Int32) (x3 : Int32) (μ : Mem) (r : Int32) (μ' : Mem) (hf : fX5_putUp x1 x2 x3 μ = some (r, μ')) : Ct l yX5_putUp wsX5_putUp rmX5_putUp G [.ref (ga G 0), .int x1, .int x2, .int x3] μ (some (.int r)) μ' := by
  refine Ct.of (cc := cX5_putUp) (maxL := 4) (ret := (some .int)) (own := RX5) hG (by decide) rfl rfl (Nat.le_of_ble_eq_true rfl) ?_
  intro p e s m args below meth c ls H locs F hl hP hS
  have hl : lv_has ls 4 [(0, .ref (ga G 0)), (1, .int x1), (2, .int x2), (3, .int x3)] := hl
  unfold fX5_putUp at hf
  refine lv_iload_n F.1.1 F.1.2.1 dX5_putUp_0 rfl (lv_at hl 1 rfl) ?_
  refine lv_iconst (v := (2 : Int32)) F.1.1 F.1.2.1 dX5_putUp_1 (by decide) ?_
  obtain ⟨r_3, μ_1, hc_2, hf⟩ := bnd_some hf
  refine rS1 (R := rmX5_putUp) (As := [.int x1, .int (2 : Int32)]) (rest := []) F hP hS hl (mX5_isUpTo l G F.2.2.2.2 x1 (2 : Int32) _ _ _ hc_2) gX5_putUp_X5_isUpTo hdX5_isUpTo rfl rfl rfl ⟨Nat.le_of_ble_eq_true rfl, Nat.le_of_ble_eq_true rfl⟩ rfl rfl (Nat.le_of_ble_eq_true rfl) ⟨Nat.le_of_ble_eq_true rfl, Nat.le_of_ble_eq_true rfl⟩ dX5_putUp_2 (fun H locs hP hS => ?_)
  refine jz_eq (tgt := 26) F dX5_putUp_5 (by decide) hf (fun hf => ?_) (fun hf => ?_)
  · refine lv_bipush (v := (-2 : Int32)) F.1.1 F.1.2.1 dX5_putUp_26 (by decide) ?_
    exact retI F hP hS dX5_putUp_28 hf
  · refine lv_iload_n F.1.1 F.1.2.1 dX5_putUp_8 rfl (lv_at hl 2 rfl) ?_
    refine lv_bipush (v := (9 : Int32)) F.1.1 F.1.2.1 dX5_putUp_9 (by decide) ?_
    obtain ⟨r_6, μ_4, hc_5, hf⟩ := bnd_some hf
    refine rS1 (R := rmX5_putUp) (As := [.int x2, .int (9 : Int32)]) (rest := []) F hP hS hl (mX5_isUpTo l G F.2.2.2.2 x2 (9 : Int32) _ _ _ hc_5) gX5_putUp_X5_isUpTo hdX5_isUpTo rfl rfl rfl ⟨Nat.le_of_ble_eq_true rfl, Nat.le_of_ble_eq_true rfl⟩ rfl rfl (Nat.le_of_ble_eq_true rfl) ⟨Nat.le_of_ble_eq_true rfl, Nat.le_of_ble_eq_true rfl⟩ dX5_putUp_11 (fun H locs hP hS => ?_)
    refine jz_eq (tgt := 26) F dX5_putUp_14 (by decide) hf (fun hf => ?_) (fun hf => ?_)
    · refine lv_bipush (v := (-2 : Int32)) F.1.1 F.1.2.1 dX5_putUp_26 (by decide) ?_
      exact retI F hP hS dX5_putUp_28 hf
    · refine lv_iload_n F.1.1 F.1.2.1 dX5_putUp_17 rfl (lv_at hl 3 rfl) ?_
      refine lv_bipush (v := (9 : Int32)) F.1.1 F.1.2.1 dX5_putUp_18 (by decide) ?_
      obtain ⟨r_9, μ_7, hc_8, hf⟩ := bnd_some hf
      refine rS1 (R := rmX5_putUp) (As := [.int x3, .int (9 : Int32)]) (rest := []) F hP hS hl (mX5_isUpTo l G F.2.2.2.2 x3 (9 : Int32) _ _ _ hc_8) gX5_putUp_X5_isUpTo hdX5_isUpTo rfl rfl rfl ⟨Nat.le_of_ble_eq_true rfl, Nat.le_of_ble_eq_true rfl⟩ rfl rfl (Nat.le_of_ble_eq_true rfl) ⟨Nat.le_of_ble_eq_true rfl, Nat.le_of_ble_eq_true rfl⟩ dX5_putUp_20 (fun H locs hP hS => ?_)
      refine jz_ne (tgt := 29) F dX5_putUp_23 (by decide) hf (fun hf => ?_) (fun hf => ?_)
      · refine lv_aload_n F.1.1 F.1.2.1 dX5_putUp_29 rfl (lv_at hl 0 rfl) ?_
        refine gt_5_0 F hP 0 rfl inX5_putUp_5 kX5_putUp_12 dX5_putUp_30 ?_
        obtain ⟨r_12, μ_10, hc_11, hf⟩ := bnd_some hf
        refine rV1 (R := rmX5_putUp) (As := []) (rest := []) F hP hS hl (mX4_stands l G F.2.2.2.2 1 rfl _ _ _ hc_11) gX5_putUp_X4_stands rfl hdX4_stands rfl rfl rfl ⟨Nat.le_of_ble_eq_true rfl, Nat.le_of_ble_eq_true rfl⟩ (by decide) rfl rfl rfl (Nat.le_of_ble_eq_true rfl) ⟨Nat.le_of_ble_eq_true rfl, Nat.le_of_ble_eq_true rfl⟩ dX5_putUp_33 (fun H locs hP hS => ?_)
        refine jz_ne (tgt := 42) F dX5_putUp_36 (by decide) hf (fun hf => ?_) (fun hf => ?_)
        · refine lv_aload_n F.1.1 F.1.2.1 dX5_putUp_42 rfl (lv_at hl 0 rfl) ?_
          refine gt_5_0 F hP 0 rfl inX5_putUp_5 kX5_putUp_12 dX5_putUp_43 ?_
          refine lv_iload_n F.1.1 F.1.2.1 dX5_putUp_46 rfl (lv_at hl 1 rfl) ?_
          refine lv_iload_n F.1.1 F.1.2.1 dX5_putUp_47 rfl (lv_at hl 2 rfl) ?_
          refine lv_iload_n F.1.1 F.1.2.1 dX5_putUp_48 rfl (lv_at hl 3 rfl) ?_
          obtain ⟨r_15, μ_13, hc_14, hf⟩ := bnd_some hf
          refine rV1 (R := rmX5_putUp) (As := [.int x1, .int x2, .int x3]) (rest := []) F hP hS hl (mX4_layOnTop l G F.2.2.2.2 1 rfl x1 x2 x3 _ _ _ hc_14) gX5_putUp_X4_layOnTop rfl hdX4_layOnTop rfl rfl rfl ⟨Nat.le_of_ble_eq_true rfl, Nat.le_of_ble_eq_true rfl⟩ (by decide) rfl rfl rfl (Nat.le_of_ble_eq_true rfl) ⟨Nat.le_of_ble_eq_true rfl, Nat.le_of_ble_eq_true rfl⟩ dX5_putUp_49 (fun H locs hP hS => ?_)
          refine jz_eq (tgt := 65) F dX5_putUp_52 (by decide) hf (fun hf => ?_) (fun hf => ?_)
          · refine lv_bipush (v := (-4 : Int32)) F.1.1 F.1.2.1 dX5_putUp_65 (by decide) ?_
            exact retI F hP hS dX5_putUp_67 hf
          · refine lv_aload_n F.1.1 F.1.2.1 dX5_putUp_55 rfl (lv_at hl 0 rfl) ?_
            refine gt_5_0 F hP 0 rfl inX5_putUp_5 kX5_putUp_12 dX5_putUp_56 ?_
            refine gt_4_1 F hP 1 rfl inX5_putUp_4 kX5_putUp_76 dX5_putUp_59 ?_
            refine lv_goto (tgt := 67) F.1.1 F.1.2.1 dX5_putUp_62 (by decide) ?_
            exact retI F hP hS dX5_putUp_67 hf
        · refine lv_bipush (v := (-3 : Int32)) F.1.1 F.1.2.1 dX5_putUp_39 (by decide) ?_
          exact retI F hP hS dX5_putUp_41 hf
      · refine lv_bipush (v := (-2 : Int32)) F.1.1 F.1.2.1 dX5_putUp_26 (by decide) ?_
        exact retI F hP hS dX5_putUp_28 hf
abbrev rmX4_peelTop : Room := { frames := 2, cells := 0, slots := 0, locals := 44 }
theorem hdX4_peelTop : yX4_peelTop.cls = RX4 ∧ yX4_peelTop.cls ≠ "java/lang/invoke/MethodHandle" ∧ yX4_peelTop.cls ≠ "java/lang/invoke/VarHandle" ∧ (parseMethodDescriptor yX4_peelTop.desc).map (fun d => d.parameters.length) = some 0 := by decide +kernel
theorem kX4_peelTop_11 : Cond.fieldLink RX4 11 "PaperLayers$Wall" "layers" "[LPaperLayers$Layer;" ∈ wsX4_peelTop := List.mem_cons_of_mem _ (List.mem_append_left _ (List.mem_append_left _ (List.mem_append_left _ (List.mem_of_getElem? (i := 1) rfl))))
theorem kX4_peelTop_18 : Cond.fieldLink RX4 18 "PaperLayers$Wall" "count" "I" ∈ wsX4_peelTop := List.mem_cons_of_mem _ (List.mem_append_left _ (List.mem_append_left _ (List.mem_append_left _ (List.mem_of_getElem? (i := 0) rfl))))
theorem inX4_peelTop_4 : ∀ w ∈ wsX40, w ∈ wsX4_peelTop := fun _ h => List.mem_cons_of_mem _ (List.mem_append_left _ (List.mem_append_right _ (h)))
set_option maxHeartbeats 4000000 in
set_option maxRecDepth 100000 in
theorem lX4_peelTop_L23 (l : Launch) (G : GT) {p : Program} {e : Env} {s : State} {m : MethodId} {args : Array Value} {below : List Frame} {meth : Method} {c : Code} (F : Fx p s m args meth c cX4_peelTop 2 wsX4_peelTop RX4 (some .boolean) G) (w : Nat) (sw : sh w = 4) (r : Int32) (μ' : Mem) : ∀ (fuel : Nat), ∀ (x1 : Int32) (μ : Mem) (H : Heap) (locs : List Loc) (ls : Array Slot), Hh G μ H → va_S (gA G) s.heap H locs → lv_has ls 2 [(0, .ref (ga G w)), (1, .int x1)] → fX4_peelTop_L23 w fuel x1 μ = some (r, μ') → W p l e rmX4_peelTop s m args below meth c H locs 0 0 (MQ below (Qg G (some (.int r)) μ') args s 0 0 (gA G)) (F0 m 23 ls []) := by
  intro fuel
  induction fuel with
  | zero =>
    intro x1 μ H locs ls hP hS hl hf
    exact absurd hf (by intro h; cases h)
  | succ fuel ih23 =>
    intro x1 μ H locs ls hP hS hl hf
    have hf : sX4_peelTop_L23 (fX4_peelTop_L23 w fuel) w x1 μ = some (r, μ') := hf
    unfold sX4_peelTop_L23 at hf
    refine lv_iload_n F.1.1 F.1.2.1 dX4_peelTop_23 rfl (lv_at hl 1 rfl) ?_
    refine lv_aload_n F.1.1 F.1.2.1 dX4_peelTop_24 rfl (lv_at hl 0 rfl) ?_
    refine gt_4_1 F hP w sw inX4_peelTop_4 kX4_peelTop_18 dX4_peelTop_25 ?_
    refine jc_ge (tgt := 54) F dX4_peelTop_28 (by decide) hf (fun hf => ?_) (fun hf => ?_)
    · refine lv_aload_n F.1.1 F.1.2.1 dX4_peelTop_54 rfl (lv_at hl 0 rfl) ?_
      refine lv_dup F.1.1 F.1.2.1 dX4_peelTop_55 rfl ?_
      refine gt_4_1 F hP w sw inX4_peelTop_4 kX4_peelTop_18 dX4_peelTop_56 ?_
      refine lv_iconst (v := (1 : Int32)) F.1.1 F.1.2.1 dX4_peelTop_59 (by decide) ?_
      refine lv_isub F.1.1 F.1.2.1 dX4_peelTop_60 ?_
      refine pt_4_1 F hP hS w sw inX4_peelTop_4 kX4_peelTop_18 dX4_peelTop_61 hf (fun μ_7 H locs hP hS hf => ?_)
      refine lv_iconst (v := (1 : Int32)) F.1.1 F.1.2.1 dX4_peelTop_64 (by decide) ?_
      exact retC F hP hS dX4_peelTop_65 (by decide) hf
    · refine lv_aload_n F.1.1 F.1.2.1 dX4_peelTop_31 rfl (lv_at hl 0 rfl) ?_
      refine gt_4_0 F hP w sw inX4_peelTop_4 kX4_peelTop_11 dX4_peelTop_32 (fun s_8 => ?_)
      refine lv_iload_n F.1.1 F.1.2.1 dX4_peelTop_35 rfl (lv_at hl 1 rfl) ?_
      refine lv_iconst (v := (1 : Int32)) F.1.1 F.1.2.1 dX4_peelTop_36 (by decide) ?_
      refine lv_isub F.1.1 F.1.2.1 dX4_peelTop_37 ?_
      refine r_aaL F hP (w + 1) s_8 dX4_peelTop_38 hf (fun s_9 hf => ?_)
      refine lv_aload_n F.1.1 F.1.2.1 dX4_peelTop_39 rfl (lv_at hl 0 rfl) ?_
      refine gt_4_0 F hP w sw inX4_peelTop_4 kX4_peelTop_11 dX4_peelTop_40 (fun s_10 => ?_)
      refine lv_iload_n F.1.1 F.1.2.1 dX4_peelTop_43 rfl (lv_at hl 1 rfl) ?_
      refine r_aaL F hP (w + 1) s_10 dX4_peelTop_44 hf (fun s_11 hf => ?_)
      obtain ⟨u_14, μ_12, hc_13, hf⟩ := bnd_some hf
      refine rVv (R := rmX4_peelTop) (As := [.ref (ga G ((w + 1) + 1 + (x1).toNatClampNeg))]) (rest := []) F hP hS hl (mX0_becomeLike l G F.2.2.2.2 ((w + 1) + 1 + ((x1 - (1 : Int32))).toNatClampNeg) s_9 ((w + 1) + 1 + (x1).toNatClampNeg) s_11 _ _ _ hc_13) gX4_peelTop_X0_becomeLike s_9 hdX0_becomeLike rfl rfl rfl ⟨Nat.le_of_ble_eq_true rfl, Nat.le_of_ble_eq_true rfl⟩ (by decide) rfl rfl rfl (Nat.le_of_ble_eq_true rfl) ⟨Nat.le_of_ble_eq_true rfl, Nat.le_of_ble_eq_true rfl⟩ dX4_peelTop_45 (fun H locs hP hS => ?_)
      refine top_n hf (fun y_15 ey_15 hf => ?_)
      refine lv_iinc (v := y_15) (lv' := [(1, .int y_15), (0, .ref (ga G w))]) F.1.1 F.1.2.1 dX4_peelTop_48 hl (k := 1) rfl ey_15 (by decide) rfl (fun ls hl => ?_)
      refine lv_goto (tgt := 23) F.1.1 F.1.2.1 dX4_peelTop_51 (by decide) ?_
      exact ih23 y_15 μ_12 H locs ls hP hS (lv_sub hl [1, 0] rfl) hf
set_option maxHeartbeats 4000000 in
set_option maxRecDepth 100000 in
theorem mX4_peelTop (l : Launch) (G : GT) (hG : GD G) (w : Nat) (sw : sh w = 4) (μ : Mem) (r : Int32) (μ' : Mem) (hf : fX4_peelTop w μ = some (r, μ')) : Ct l yX4_peelTop wsX4_peelTop rmX4_peelTop G [.ref (ga G w)] μ (some (.int r)) μ' := by
  refine Ct.of (cc := cX4_peelTop) (maxL := 2) (ret := (some .boolean)) (own := RX4) hG (by decide) rfl rfl (Nat.le_of_ble_eq_true rfl) ?_
  intro p e s m args below meth c ls H locs F hl hP hS
  have hl : lv_has ls 2 [(0, .ref (ga G w))] := hl
  unfold fX4_peelTop at hf
  refine lv_aload_n F.1.1 F.1.2.1 dX4_peelTop_0 rfl (lv_at hl 0 rfl) ?_
  refine gt_4_1 F hP w sw inX4_peelTop_4 kX4_peelTop_18 dX4_peelTop_1 ?_
  refine lv_iconst (v := (2 : Int32)) F.1.1 F.1.2.1 dX4_peelTop_4 (by decide) ?_
  refine jc_lt (tgt := 19) F dX4_peelTop_5 (by decide) hf (fun hf => ?_) (fun hf => ?_)
  · refine lv_iconst (v := (0 : Int32)) F.1.1 F.1.2.1 dX4_peelTop_19 (by decide) ?_
    exact retC F hP hS dX4_peelTop_20 (by decide) hf
  · refine lv_aload_n F.1.1 F.1.2.1 dX4_peelTop_8 rfl (lv_at hl 0 rfl) ?_
    refine lv_aload_n F.1.1 F.1.2.1 dX4_peelTop_9 rfl (lv_at hl 0 rfl) ?_
    obtain ⟨r_3, μ_1, hc_2, hf⟩ := bnd_some hf
    refine rV1 (R := rmX4_peelTop) (As := []) (rest := [.ref (ga G w)]) F hP hS hl (mX4_warmth l G F.2.2.2.2 w sw _ _ _ hc_2) gX4_peelTop_X4_warmth sw hdX4_warmth rfl rfl rfl ⟨Nat.le_of_ble_eq_true rfl, Nat.le_of_ble_eq_true rfl⟩ (by decide) rfl rfl rfl (Nat.le_of_ble_eq_true rfl) ⟨Nat.le_of_ble_eq_true rfl, Nat.le_of_ble_eq_true rfl⟩ dX4_peelTop_10 (fun H locs hP hS => ?_)
    obtain ⟨r_6, μ_4, hc_5, hf⟩ := bnd_some hf
    refine rV1 (R := rmX4_peelTop) (As := [.int r_3]) (rest := []) F hP hS hl (mX4_liftedBy l G F.2.2.2.2 w sw r_3 _ _ _ hc_5) gX4_peelTop_X4_liftedBy sw hdX4_liftedBy rfl rfl rfl ⟨Nat.le_of_ble_eq_true rfl, Nat.le_of_ble_eq_true rfl⟩ (by decide) rfl rfl rfl (Nat.le_of_ble_eq_true rfl) ⟨Nat.le_of_ble_eq_true rfl, Nat.le_of_ble_eq_true rfl⟩ dX4_peelTop_13 (fun H locs hP hS => ?_)
    refine jz_ne (tgt := 21) F dX4_peelTop_16 (by decide) hf (fun hf => ?_) (fun hf => ?_)
    · refine lv_iconst (v := (1 : Int32)) F.1.1 F.1.2.1 dX4_peelTop_21 (by decide) ?_
      refine lv_istore_n (lv' := [(1, .int (1 : Int32)), (0, .ref (ga G w))]) F.1.1 F.1.2.1 dX4_peelTop_22 rfl hl (by decide) rfl (fun ls hl => ?_)
      exact lX4_peelTop_L23 l G F w sw _ _ FU (1 : Int32) μ_4 H locs ls hP hS (lv_sub hl [1, 0] rfl) hf
    · refine lv_iconst (v := (0 : Int32)) F.1.1 F.1.2.1 dX4_peelTop_19 (by decide) ?_
      exact retC F hP hS dX4_peelTop_20 (by decide) hf
abbrev rmX5_peel : Room := { frames := 3, cells := 0, slots := 0, locals := 65 }
theorem hdX5_peel : yX5_peel.cls = RX5 ∧ yX5_peel.cls ≠ "java/lang/invoke/MethodHandle" ∧ yX5_peel.cls ≠ "java/lang/invoke/VarHandle" ∧ (parseMethodDescriptor yX5_peel.desc).map (fun d => d.parameters.length) = some 0 := by decide +kernel
theorem kX5_peel_12 : Cond.fieldLink RX5 12 "PaperLayers" "now" "LPaperLayers$Wall;" ∈ wsX5_peel := List.mem_cons_of_mem _ (List.mem_append_left _ (List.mem_append_left _ (List.mem_append_left _ (List.mem_append_left _ (List.mem_of_getElem? (i := 0) rfl)))))
theorem kX5_peel_89 : Cond.fieldLink RX5 89 "PaperLayers$Layer" "advice" "I" ∈ wsX5_peel := List.mem_cons_of_mem _ (List.mem_append_left _ (List.mem_append_left _ (List.mem_append_left _ (List.mem_append_left _ (List.mem_of_getElem? (i := 1) rfl)))))
theorem inX5_peel_0 : ∀ w ∈ wsX00, w ∈ wsX5_peel := fun _ h => List.mem_cons_of_mem _ (List.mem_append_left _ (List.mem_append_right _ (h)))
theorem inX5_peel_5 : ∀ w ∈ wsX50, w ∈ wsX5_peel := fun _ h => List.mem_cons_of_mem _ (List.mem_append_left _ (List.mem_append_left _ (List.mem_append_right _ (h))))
set_option maxHeartbeats 4000000 in
set_option maxRecDepth 100000 in
theorem mX5_peel (l : Launch) (G : GT) (hG : GD G) (μ : Mem) (r : Int32) (μ' : Mem) (hf : fX5_peel μ = some (r, μ')) : Ct l yX5_peel wsX5_peel rmX5_peel G [.ref (ga G 0)] μ (some (.int r)) μ' := by
  refine Ct.of (cc := cX5_peel) (maxL := 3) (ret := (some .int)) (own := RX5) hG (by decide) rfl rfl (Nat.le_of_ble_eq_true rfl) ?_
  intro p e s m args below meth c ls H locs F hl hP hS
  have hl : lv_has ls 3 [(0, .ref (ga G 0))] := hl
  unfold fX5_peel at hf
  refine lv_aload_n F.1.1 F.1.2.1 dX5_peel_0 rfl (lv_at hl 0 rfl) ?_
  refine gt_5_0 F hP 0 rfl inX5_peel_5 kX5_peel_12 dX5_peel_1 ?_
  refine lv_iconst (v := (0 : Int32)) F.1.1 F.1.2.1 dX5_peel_4 (by decide) ?_
  obtain ⟨r_3, μ_1, hc_2, hf⟩ := bnd_some hf
  refine rV1 (R := rmX5_peel) (As := [.int (0 : Int32)]) (rest := []) F hP hS hl (mX4_layerAt l G F.2.2.2.2 1 rfl (0 : Int32) _ _ _ hc_2) gX5_peel_X4_layerAt rfl hdX4_layerAt rfl rfl rfl ⟨Nat.le_of_ble_eq_true rfl, Nat.le_of_ble_eq_true rfl⟩ (by decide) rfl rfl rfl (Nat.le_of_ble_eq_true rfl) ⟨Nat.le_of_ble_eq_true rfl, Nat.le_of_ble_eq_true rfl⟩ dX5_peel_5 (fun H locs hP hS => ?_)
  refine top_o hf (fun hf => ?_) (fun i_4 ho_5 hf => ?_)
  · refine lv_astore_nN (lv' := [(1, .null), (0, .ref (ga G 0))]) F.1.1 F.1.2.1 dX5_peel_8 rfl hl (by decide) rfl (fun ls hl => ?_)
    refine lv_aload_nN F.1.1 F.1.2.1 dX5_peel_9 rfl (lv_at hl 0 rfl) ?_
    refine lv_ifnonnullN F.1.1 F.1.2.1 dX5_peel_10 ?_
    refine lv_bipush (v := (-3 : Int32)) F.1.1 F.1.2.1 dX5_peel_13 (by decide) ?_
    exact retI F hP hS dX5_peel_15 hf
  · have s_6 := shX4_layerAt_r rfl (ho_5 ▸ hc_2)
    refine lv_astore_n (lv' := [(1, .ref (ga G i_4)), (0, .ref (ga G 0))]) F.1.1 F.1.2.1 dX5_peel_8 rfl hl (by decide) rfl (fun ls hl => ?_)
    refine lv_aload_n F.1.1 F.1.2.1 dX5_peel_9 rfl (lv_at hl 0 rfl) ?_
    refine lv_ifnonnull (tgt := 16) F.1.1 F.1.2.1 dX5_peel_10 (by decide) ?_
    refine lv_aload_n F.1.1 F.1.2.1 dX5_peel_16 rfl (lv_at hl 0 rfl) ?_
    refine gt_0_2 F hP i_4 s_6 inX5_peel_0 kX5_peel_89 dX5_peel_17 ?_
    refine top_i hf (fun y_7 hf => ?_)
    refine lv_istore_n (lv' := [(2, .int y_7), (1, .ref (ga G i_4)), (0, .ref (ga G 0))]) F.1.1 F.1.2.1 dX5_peel_20 rfl hl (by decide) rfl (fun ls hl => ?_)
    refine lv_aload_n F.1.1 F.1.2.1 dX5_peel_21 rfl (lv_at hl 2 rfl) ?_
    refine gt_5_0 F hP 0 rfl inX5_peel_5 kX5_peel_12 dX5_peel_22 ?_
    obtain ⟨r_10, μ_8, hc_9, hf⟩ := bnd_some hf
    refine rV1 (R := rmX5_peel) (As := []) (rest := []) F hP hS hl (mX4_peelTop l G F.2.2.2.2 1 rfl _ _ _ hc_9) gX5_peel_X4_peelTop rfl hdX4_peelTop rfl rfl rfl ⟨Nat.le_of_ble_eq_true rfl, Nat.le_of_ble_eq_true rfl⟩ (by decide) rfl rfl rfl (Nat.le_of_ble_eq_true rfl) ⟨Nat.le_of_ble_eq_true rfl, Nat.le_of_ble_eq_true rfl⟩ dX5_peel_25 (fun H locs hP hS => ?_)
    refine jz_eq (tgt := 35) F dX5_peel_28 (by decide) hf (fun hf => ?_) (fun hf => ?_)
    · refine lv_bipush (v := (-3 : Int32)) F.1.1 F.1.2.1 dX5_peel_35 (by decide) ?_
      exact retI F hP hS dX5_peel_37 hf
    · refine lv_iload_n F.1.1 F.1.2.1 dX5_peel_31 rfl (lv_at hl 0 rfl) ?_
      refine lv_goto (tgt := 37) F.1.1 F.1.2.1 dX5_peel_32 (by decide) ?_
      exact retI F hP hS dX5_peel_37 hf
