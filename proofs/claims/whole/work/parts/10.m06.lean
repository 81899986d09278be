abbrev rmX5_strokeRed : Room := { frames := 1, cells := 0, slots := 0, locals := 21 }
theorem hdX5_strokeRed : yX5_strokeRed.cls = RX5 ∧ yX5_strokeRed.cls ≠ "java/lang/invoke/MethodHandle" ∧ yX5_strokeRed.cls ≠ "java/lang/invoke/VarHandle" ∧ (parseMethodDescriptor yX5_strokeRed.desc).map (fun d => d.parameters.length) = some 0 := by decide +kernel
set_option maxHeartbeats 4000000 in
set_option maxRecDepth 100000 in
theorem mX5_strokeRed (l : Launch) (G : GT) (hG : GD G) (μ : Mem) (r : Int32) (μ' : Mem) (hf : fX5_strokeRed μ = some (r, μ')) : Ct l yX5_strokeRed wsX5_strokeRed rmX5_strokeRed G [.ref (ga G 0)] μ (some (.int r)) μ' := by
  refine Ct.of (cc := cX5_strokeRed) (maxL := 1) (ret := (some .int)) (own := RX5) hG (by decide) rfl rfl (Nat.le_of_ble_eq_true rfl) ?_
  intro p e s m args below meth c ls H locs F hl hP hS
  have hl : lv_has ls 1 [(0, .ref (ga G 0))] := hl
  unfold fX5_strokeRed at hf
  refine lv_aload_n F.1.1 F.1.2.1 dX5_strokeRed_0 rfl (lv_at hl 0 rfl) ?_
  refine lv_iconst (v := (5 : Int32)) F.1.1 F.1.2.1 dX5_strokeRed_1 (by decide) ?_
  obtain ⟨u_3, μ_1, hc_2, hf⟩ := bnd_some hf
  refine rVv (R := rmX5_strokeRed) (As := [.int (5 : Int32)]) (rest := []) F hP hS hl (mX5_leave l G F.2.2.2.2 (5 : Int32) _ _ _ hc_2) gX5_strokeRed_X5_leave rfl hdX5_leave rfl rfl rfl ⟨Nat.le_of_ble_eq_true rfl, Nat.le_of_ble_eq_true rfl⟩ (by decide) rfl rfl rfl (Nat.le_of_ble_eq_true rfl) ⟨Nat.le_of_ble_eq_true rfl, Nat.le_of_ble_eq_true rfl⟩ dX5_strokeRed_2 (fun H locs hP hS => ?_)
  refine lv_bipush (v := (10 : Int32)) F.1.1 F.1.2.1 dX5_strokeRed_5 (by decide) ?_
  exact retI F hP hS dX5_strokeRed_7 hf
abbrev rmX5_strokeLent : Room := { frames := 1, cells := 0, slots := 0, locals := 21 }
theorem hdX5_strokeLent : yX5_strokeLent.cls = RX5 ∧ yX5_strokeLent.cls ≠ "java/lang/invoke/MethodHandle" ∧ yX5_strokeLent.cls ≠ "java/lang/invoke/VarHandle" ∧ (parseMethodDescriptor yX5_strokeLent.desc).map (fun d => d.parameters.length) = some 1 := by decide +kernel
theorem kX5_strokeLent_89 : Cond.fieldLink RX5 89 "PaperLayers$Layer" "advice" "I" ∈ wsX5_strokeLent := List.mem_cons_of_mem _ (List.mem_append_left _ (List.mem_append_left _ (List.mem_of_getElem? (i := 0) rfl)))
theorem inX5_strokeLent_0 : ∀ w ∈ wsX00, w ∈ wsX5_strokeLent := fun _ h => List.mem_cons_of_mem _ (List.mem_append_left _ (List.mem_append_right _ (h)))
set_option maxHeartbeats 4000000 in
set_option maxRecDepth 100000 in
theorem mX5_strokeLent (l : Launch) (G : GT) (hG : GD G) (j1 : Nat) (sj1 : sh j1 = 0) (μ : Mem) (r : Int32) (μ' : Mem) (hf : fX5_strokeLent j1 μ = some (r, μ')) : Ct l yX5_strokeLent wsX5_strokeLent rmX5_strokeLent G [.ref (ga G 0), .ref (ga G j1)] μ (some (.int r)) μ' := by
  refine Ct.of (cc := cX5_strokeLent) (maxL := 2) (ret := (some .int)) (own := RX5) hG (by decide) rfl rfl (Nat.le_of_ble_eq_true rfl) ?_
  intro p e s m args below meth c ls H locs F hl hP hS
  have hl : lv_has ls 2 [(0, .ref (ga G 0)), (1, .ref (ga G j1))] := hl
  unfold fX5_strokeLent at hf
  refine lv_aload_n F.1.1 F.1.2.1 dX5_strokeLent_0 rfl (lv_at hl 0 rfl) ?_
  refine lv_iconst (v := (4 : Int32)) F.1.1 F.1.2.1 dX5_strokeLent_1 (by decide) ?_
  obtain ⟨u_3, μ_1, hc_2, hf⟩ := bnd_some hf
  refine rVv (R := rmX5_strokeLent) (As := [.int (4 : Int32)]) (rest := []) F hP hS hl (mX5_leave l G F.2.2.2.2 (4 : Int32) _ _ _ hc_2) gX5_strokeLent_X5_leave rfl hdX5_leave rfl rfl rfl ⟨Nat.le_of_ble_eq_true rfl, Nat.le_of_ble_eq_true rfl⟩ (by decide) rfl rfl rfl (Nat.le_of_ble_eq_true rfl) ⟨Nat.le_of_ble_eq_true rfl, Nat.le_of_ble_eq_true rfl⟩ dX5_strokeLent_2 (fun H locs hP hS => ?_)
  refine lv_aload_n F.1.1 F.1.2.1 dX5_strokeLent_5 rfl (lv_at hl 1 rfl) ?_
  refine gt_0_2 F hP j1 sj1 inX5_strokeLent_0 kX5_strokeLent_89 dX5_strokeLent_6 ?_
  exact retI F hP hS dX5_strokeLent_9 hf
abbrev rmX5_stroke : Room := { frames := 2, cells := 0, slots := 0, locals := 42 }
theorem hdX5_stroke : yX5_stroke.cls = RX5 ∧ yX5_stroke.cls ≠ "java/lang/invoke/MethodHandle" ∧ yX5_stroke.cls ≠ "java/lang/invoke/VarHandle" ∧ (parseMethodDescriptor yX5_stroke.desc).map (fun d => d.parameters.length) = some 1 := by decide +kernel
theorem kX5_stroke_12 : Cond.fieldLink RX5 12 "PaperLayers" "now" "LPaperLayers$Wall;" ∈ wsX5_stroke := List.mem_cons_of_mem _ (List.mem_append_left _ (List.mem_append_left _ (List.mem_append_left _ (List.mem_of_getElem? (i := 0) rfl))))
theorem kX5_stroke_81 : Cond.fieldLink RX5 81 "PaperLayers$Layer" "kind" "I" ∈ wsX5_stroke := List.mem_cons_of_mem _ (List.mem_append_left _ (List.mem_append_left _ (List.mem_append_left _ (List.mem_of_getElem? (i := 1) rfl))))
theorem inX5_stroke_0 : ∀ w ∈ wsX00, w ∈ wsX5_stroke := fun _ h => List.mem_cons_of_mem _ (List.mem_append_left _ (List.mem_append_right _ (h)))
theorem inX5_stroke_5 : ∀ w ∈ wsX50, w ∈ wsX5_stroke := fun _ h => List.mem_cons_of_mem _ (List.mem_append_left _ (List.mem_append_left _ (List.mem_append_right _ (h))))
set_option maxHeartbeats 4000000 in
set_option maxRecDepth 100000 in
theorem mX5_stroke (l : Launch) (G : GT) (hG : GD G) (x1 : Int32) (μ : Mem) (r : Int32) (μ' : Mem) (hf : fX5_stroke x1 μ = some (r, μ')) : Ct l yX5_stroke wsX5_stroke rmX5_stroke G [.ref (ga G 0), .int x1] μ (some (.int r)) μ' := by
  refine Ct.of (cc := cX5_stroke) (maxL := 3) (ret := (some .int)) (own := RX5) hG (by decide) rfl rfl (Nat.le_of_ble_eq_true rfl) ?_
  intro p e s m args below meth c ls H locs F hl hP hS
  have hl : lv_has ls 3 [(0, .ref (ga G 0)), (1, .int x1)] := hl
  unfold fX5_stroke at hf
  refine lv_aload_n F.1.1 F.1.2.1 dX5_stroke_0 rfl (lv_at hl 0 rfl) ?_
  refine gt_5_0 F hP 0 rfl inX5_stroke_5 kX5_stroke_12 dX5_stroke_1 ?_
  refine lv_iload_n F.1.1 F.1.2.1 dX5_stroke_4 rfl (lv_at hl 1 rfl) ?_
  obtain ⟨r_3, μ_1, hc_2, hf⟩ := bnd_some hf
  refine rV1 (R := rmX5_stroke) (As := [.int x1]) (rest := []) F hP hS hl (mX4_layerAt l G F.2.2.2.2 1 rfl x1 _ _ _ hc_2) gX5_stroke_X4_layerAt rfl hdX4_layerAt rfl rfl rfl ⟨Nat.le_of_ble_eq_true rfl, Nat.le_of_ble_eq_true rfl⟩ (by decide) rfl rfl rfl (Nat.le_of_ble_eq_true rfl) ⟨Nat.le_of_ble_eq_true rfl, Nat.le_of_ble_eq_true rfl⟩ dX5_stroke_5 (fun H locs hP hS => ?_)
  refine top_o hf (fun hf => ?_) (fun i_4 ho_5 hf => ?_)
  · refine lv_astore_nN (lv' := [(2, .null), (0, .ref (ga G 0)), (1, .int x1)]) F.1.1 F.1.2.1 dX5_stroke_8 rfl hl (by decide) rfl (fun ls hl => ?_)
    refine lv_aload_nN F.1.1 F.1.2.1 dX5_stroke_9 rfl (lv_at hl 0 rfl) ?_
    refine lv_ifnonnullN F.1.1 F.1.2.1 dX5_stroke_10 ?_
    refine lv_iconst (v := (-1 : Int32)) F.1.1 F.1.2.1 dX5_stroke_13 (by decide) ?_
    exact retI F hP hS dX5_stroke_14 hf
  · have s_6 := shX4_layerAt_r rfl (ho_5 ▸ hc_2)
    refine lv_astore_n (lv' := [(2, .ref (ga G i_4)), (0, .ref (ga G 0)), (1, .int x1)]) F.1.1 F.1.2.1 dX5_stroke_8 rfl hl (by decide) rfl (fun ls hl => ?_)
    refine lv_aload_n F.1.1 F.1.2.1 dX5_stroke_9 rfl (lv_at hl 0 rfl) ?_
    refine lv_ifnonnull (tgt := 15) F.1.1 F.1.2.1 dX5_stroke_10 (by decide) ?_
    refine lv_aload_n F.1.1 F.1.2.1 dX5_stroke_15 rfl (lv_at hl 0 rfl) ?_
    refine gt_0_0 F hP i_4 s_6 inX5_stroke_0 kX5_stroke_81 dX5_stroke_16 ?_
    refine lv_iconst (v := (2 : Int32)) F.1.1 F.1.2.1 dX5_stroke_19 (by decide) ?_
    refine jc_ne (tgt := 30) F dX5_stroke_20 (by decide) hf (fun hf => ?_) (fun hf => ?_)
    · refine lv_aload_n F.1.1 F.1.2.1 dX5_stroke_30 rfl (lv_at hl 1 rfl) ?_
      refine lv_aload_n F.1.1 F.1.2.1 dX5_stroke_31 rfl (lv_at hl 0 rfl) ?_
      obtain ⟨r_9, μ_7, hc_8, hf⟩ := bnd_some hf
      refine rV1 (R := rmX5_stroke) (As := [.ref (ga G i_4)]) (rest := []) F hP hS hl (mX5_strokeLent l G F.2.2.2.2 i_4 s_6 _ _ _ hc_8) gX5_stroke_X5_strokeLent rfl hdX5_strokeLent rfl rfl rfl ⟨Nat.le_of_ble_eq_true rfl, Nat.le_of_ble_eq_true rfl⟩ (by decide) rfl rfl rfl (Nat.le_of_ble_eq_true rfl) ⟨Nat.le_of_ble_eq_true rfl, Nat.le_of_ble_eq_true rfl⟩ dX5_stroke_32 (fun H locs hP hS => ?_)
      exact retI F hP hS dX5_stroke_35 hf
    · refine lv_aload_n F.1.1 F.1.2.1 dX5_stroke_23 rfl (lv_at hl 1 rfl) ?_
      obtain ⟨r_12, μ_10, hc_11, hf⟩ := bnd_some hf
      refine rV1 (R := rmX5_stroke) (As := []) (rest := []) F hP hS hl (mX5_strokeRed l G F.2.2.2.2  _ _ _ hc_11) gX5_stroke_X5_strokeRed rfl hdX5_strokeRed rfl rfl rfl ⟨Nat.le_of_ble_eq_true rfl, Nat.le_of_ble_eq_true rfl⟩ (by decide) rfl rfl rfl (Nat.le_of_ble_eq_true rfl) ⟨Nat.le_of_ble_eq_true rfl, Nat.le_of_ble_eq_true rfl⟩ dX5_stroke_24 (fun H locs hP hS => ?_)
      refine lv_goto (tgt := 35) F.1.1 F.1.2.1 dX5_stroke_27 (by decide) ?_
      exact retI F hP hS dX5_stroke_35 hf
abbrev rmX0_isA : Room := { frames := 0, cells := 0, slots := 0, locals := 0 }
theorem hdX0_isA : yX0_isA.cls = RX0 ∧ yX0_isA.cls ≠ "java/lang/invoke/MethodHandle" ∧ yX0_isA.cls ≠ "java/lang/invoke/VarHandle" ∧ (parseMethodDescriptor yX0_isA.desc).map (fun d => d.parameters.length) = some 1 := by decide +kernel
theorem kX0_isA_9 : Cond.fieldLink RX0 9 "PaperLayers$Layer" "kind" "I" ∈ wsX0_isA := List.mem_cons_of_mem _ (List.mem_append_left _ (List.mem_of_getElem? (i := 0) rfl))
theorem inX0_isA_0 : ∀ w ∈ wsX00, w ∈ wsX0_isA := fun _ h => List.mem_cons_of_mem _ (List.mem_append_right _ (h))
set_option maxHeartbeats 4000000 in
set_option maxRecDepth 100000 in
theorem mX0_isA (l : Launch) (G : GT) (hG : GD G) (i : Nat) (si : sh i = 0) (x1 : Int32) (μ : Mem) (r : Int32) (μ' : Mem) (hf : fX0_isA i x1 μ = some (r, μ')) : Ct l yX0_isA wsX0_isA rmX0_isA G [.ref (ga G i), .int x1] μ (some (.int r)) μ' := by
  refine Ct.of (cc := cX0_isA) (maxL := 2) (ret := (some .boolean)) (own := RX0) hG (by decide) rfl rfl (Nat.le_of_ble_eq_true rfl) ?_
  intro p e s m args below meth c ls H locs F hl hP hS
  have hl : lv_has ls 2 [(0, .ref (ga G i)), (1, .int x1)] := hl
  unfold fX0_isA at hf
  refine lv_aload_n F.1.1 F.1.2.1 dX0_isA_0 rfl (lv_at hl 0 rfl) ?_
  refine gt_0_0 F hP i si inX0_isA_0 kX0_isA_9 dX0_isA_1 ?_
  refine lv_iload_n F.1.1 F.1.2.1 dX0_isA_4 rfl (lv_at hl 1 rfl) ?_
  refine jc_lt (tgt := 12) F dX0_isA_5 (by decide) hf (fun hf => ?_) (fun hf => ?_)
  · refine lv_iconst (v := (0 : Int32)) F.1.1 F.1.2.1 dX0_isA_12 (by decide) ?_
    exact retC F hP hS dX0_isA_13 (by decide) hf
  · refine lv_iconst (v := (1 : Int32)) F.1.1 F.1.2.1 dX0_isA_8 (by decide) ?_
    refine lv_goto (tgt := 13) F.1.1 F.1.2.1 dX0_isA_9 (by decide) ?_
    exact retC F hP hS dX0_isA_13 (by decide) hf
abbrev rmX5_as : Room := { frames := 1, cells := 0, slots := 0, locals := 21 }
theorem hdX5_as : yX5_as.cls = RX5 ∧ yX5_as.cls ≠ "java/lang/invoke/MethodHandle" ∧ yX5_as.cls ≠ "java/lang/invoke/VarHandle" ∧ (parseMethodDescriptor yX5_as.desc).map (fun d => d.parameters.length) = some 2 := by decide +kernel
theorem kX5_as_12 : Cond.fieldLink RX5 12 "PaperLayers" "now" "LPaperLayers$Wall;" ∈ wsX5_as := List.mem_cons_of_mem _ (List.mem_append_left _ (List.mem_append_left _ (List.mem_append_left _ (List.mem_of_getElem? (i := 1) rfl))))
theorem kX5_as_42 : Cond.fieldLink RX5 42 "PaperLayers" "latestFault" "I" ∈ wsX5_as := List.mem_cons_of_mem _ (List.mem_append_left _ (List.mem_append_left _ (List.mem_append_left _ (List.mem_of_getElem? (i := 0) rfl))))
theorem inX5_as_5 : ∀ w ∈ wsX50, w ∈ wsX5_as := fun _ h => List.mem_cons_of_mem _ (List.mem_append_left _ (List.mem_append_left _ (List.mem_append_right _ (h))))
set_option maxHeartbeats 4000000 in
set_option maxRecDepth 100000 in
theorem mX5_as (l : Launch) (G : GT) (hG : GD G) (x1 : Int32) (x2 : Int32) (μ : Mem) (r : Int32) (μ' : Mem) (hf : fX5_as x1 x2 μ = some (r, μ')) : Ct l yX5_as wsX5_as rmX5_as G [.ref (ga G 0), .int x1, .int x2] μ (some (.int r)) μ' := by
  refine Ct.of (cc := cX5_as) (maxL := 4) (ret := (some .int)) (own := RX5) hG (by decide) rfl rfl (Nat.le_of_ble_eq_true rfl) ?_
  intro p e s m args below meth c ls H locs F hl hP hS
  have hl : lv_has ls 4 [(0, .ref (ga G 0)), (1, .int x1), (2, .int x2)] := hl
  unfold fX5_as at hf
  refine lv_aload_n F.1.1 F.1.2.1 dX5_as_0 rfl (lv_at hl 0 rfl) ?_
  refine lv_iconst (v := (0 : Int32)) F.1.1 F.1.2.1 dX5_as_1 (by decide) ?_
  refine pt_5_6 F hP hS 0 rfl inX5_as_5 kX5_as_42 dX5_as_2 hf (fun μ_1 H locs hP hS hf => ?_)
  refine lv_aload_n F.1.1 F.1.2.1 dX5_as_5 rfl (lv_at hl 0 rfl) ?_
  refine gt_5_0 F hP 0 rfl inX5_as_5 kX5_as_12 dX5_as_6 ?_
  refine lv_iload_n F.1.1 F.1.2.1 dX5_as_9 rfl (lv_at hl 1 rfl) ?_
  obtain ⟨r_4, μ_2, hc_3, hf⟩ := bnd_some hf
  refine rV1 (R := rmX5_as) (As := [.int x1]) (rest := []) F hP hS hl (mX4_layerAt l G F.2.2.2.2 1 rfl x1 _ _ _ hc_3) gX5_as_X4_layerAt rfl hdX4_layerAt rfl rfl rfl ⟨Nat.le_of_ble_eq_true rfl, Nat.le_of_ble_eq_true rfl⟩ (by decide) rfl rfl rfl (Nat.le_of_ble_eq_true rfl) ⟨Nat.le_of_ble_eq_true rfl, Nat.le_of_ble_eq_true rfl⟩ dX5_as_10 (fun H locs hP hS => ?_)
  refine top_o hf (fun hf => ?_) (fun i_5 ho_6 hf => ?_)
  · refine lv_astore_nN (lv' := [(3, .null), (0, .ref (ga G 0)), (1, .int x1), (2, .int x2)]) F.1.1 F.1.2.1 dX5_as_13 rfl hl (by decide) rfl (fun ls hl => ?_)
    refine lv_aload_nN F.1.1 F.1.2.1 dX5_as_14 rfl (lv_at hl 0 rfl) ?_
    refine lv_ifnonnullN F.1.1 F.1.2.1 dX5_as_15 ?_
    refine lv_iconst (v := (-1 : Int32)) F.1.1 F.1.2.1 dX5_as_18 (by decide) ?_
    exact retI F hP hS dX5_as_19 hf
  · have s_7 := shX4_layerAt_r rfl (ho_6 ▸ hc_3)
    refine lv_astore_n (lv' := [(3, .ref (ga G i_5)), (0, .ref (ga G 0)), (1, .int x1), (2, .int x2)]) F.1.1 F.1.2.1 dX5_as_13 rfl hl (by decide) rfl (fun ls hl => ?_)
    refine lv_aload_n F.1.1 F.1.2.1 dX5_as_14 rfl (lv_at hl 0 rfl) ?_
    refine lv_ifnonnull (tgt := 20) F.1.1 F.1.2.1 dX5_as_15 (by decide) ?_
    refine lv_iload_n F.1.1 F.1.2.1 dX5_as_20 rfl (lv_at hl 3 rfl) ?_
    refine lv_iconst (v := (2 : Int32)) F.1.1 F.1.2.1 dX5_as_21 (by decide) ?_
    obtain ⟨r_10, μ_8, hc_9, hf⟩ := bnd_some hf
    refine rS1 (R := rmX5_as) (As := [.int x2, .int (2 : Int32)]) (rest := []) F hP hS hl (mX5_isUpTo l G F.2.2.2.2 x2 (2 : Int32) _ _ _ hc_9) gX5_as_X5_isUpTo hdX5_isUpTo rfl rfl rfl ⟨Nat.le_of_ble_eq_true rfl, Nat.le_of_ble_eq_true rfl⟩ rfl rfl (Nat.le_of_ble_eq_true rfl) ⟨Nat.le_of_ble_eq_true rfl, Nat.le_of_ble_eq_true rfl⟩ dX5_as_22 (fun H locs hP hS => ?_)
    refine jz_ne (tgt := 31) F dX5_as_25 (by decide) hf (fun hf => ?_) (fun hf => ?_)
    · refine lv_aload_n F.1.1 F.1.2.1 dX5_as_31 rfl (lv_at hl 0 rfl) ?_
      refine lv_iload_n F.1.1 F.1.2.1 dX5_as_32 rfl (lv_at hl 3 rfl) ?_
      obtain ⟨r_13, μ_11, hc_12, hf⟩ := bnd_some hf
      refine rV1 (R := rmX5_as) (As := [.int x2]) (rest := []) F hP hS hl (mX0_isA l G F.2.2.2.2 i_5 s_7 x2 _ _ _ hc_12) gX5_as_X0_isA s_7 hdX0_isA rfl rfl rfl ⟨Nat.le_of_ble_eq_true rfl, Nat.le_of_ble_eq_true rfl⟩ (by decide) rfl rfl rfl (Nat.le_of_ble_eq_true rfl) ⟨Nat.le_of_ble_eq_true rfl, Nat.le_of_ble_eq_true rfl⟩ dX5_as_33 (fun H locs hP hS => ?_)
      refine jz_eq (tgt := 43) F dX5_as_36 (by decide) hf (fun hf => ?_) (fun hf => ?_)
      · refine lv_aload_n F.1.1 F.1.2.1 dX5_as_43 rfl (lv_at hl 1 rfl) ?_
        refine lv_iconst (v := (2 : Int32)) F.1.1 F.1.2.1 dX5_as_44 (by decide) ?_
        obtain ⟨r_16, μ_14, hc_15, hf⟩ := bnd_some hf
        refine rV1 (R := rmX5_as) (As := [.int (2 : Int32)]) (rest := []) F hP hS hl (mX5_failed l G F.2.2.2.2 (2 : Int32) _ _ _ hc_15) gX5_as_X5_failed rfl hdX5_failed rfl rfl rfl ⟨Nat.le_of_ble_eq_true rfl, Nat.le_of_ble_eq_true rfl⟩ (by decide) rfl rfl rfl (Nat.le_of_ble_eq_true rfl) ⟨Nat.le_of_ble_eq_true rfl, Nat.le_of_ble_eq_true rfl⟩ dX5_as_45 (fun H locs hP hS => ?_)
        exact retI F hP hS dX5_as_48 hf
      · refine lv_iconst (v := (1 : Int32)) F.1.1 F.1.2.1 dX5_as_39 (by decide) ?_
        refine lv_goto (tgt := 48) F.1.1 F.1.2.1 dX5_as_40 (by decide) ?_
        exact retI F hP hS dX5_as_48 hf
    · refine lv_bipush (v := (-2 : Int32)) F.1.1 F.1.2.1 dX5_as_28 (by decide) ?_
      exact retI F hP hS dX5_as_30 hf
abbrev rmX5_trace : Room := { frames := 0, cells := 0, slots := 0, locals := 0 }
theorem hdX5_trace : yX5_trace.cls = RX5 ∧ yX5_trace.cls ≠ "java/lang/invoke/MethodHandle" ∧ yX5_trace.cls ≠ "java/lang/invoke/VarHandle" ∧ (parseMethodDescriptor yX5_trace.desc).map (fun d => d.parameters.length) = some 0 := by decide +kernel
theorem kX5_trace_223 : Cond.fieldLink RX5 223 "PaperLayers" "traced" "I" ∈ wsX5_trace := List.mem_cons_of_mem _ (List.mem_append_left _ (List.mem_of_getElem? (i := 0) rfl))
theorem inX5_trace_5 : ∀ w ∈ wsX50, w ∈ wsX5_trace := fun _ h => List.mem_cons_of_mem _ (List.mem_append_right _ (h))
set_option maxHeartbeats 4000000 in
set_option maxRecDepth 100000 in
theorem mX5_trace (l : Launch) (G : GT) (hG : GD G) (μ : Mem) (r : Int32) (μ' : Mem) (hf : fX5_trace μ = some (r, μ')) : Ct l yX5_trace wsX5_trace rmX5_trace G [.ref (ga G 0)] μ (some (.int r)) μ' := by
  refine Ct.of (cc := cX5_trace) (maxL := 1) (ret := (some .int)) (own := RX5) hG (by decide) rfl rfl (Nat.le_of_ble_eq_true rfl) ?_
  intro p e s m args below meth c ls H locs F hl hP hS
  have hl : lv_has ls 1 [(0, .ref (ga G 0))] := hl
  unfold fX5_trace at hf
  refine lv_aload_n F.1.1 F.1.2.1 dX5_trace_0 rfl (lv_at hl 0 rfl) ?_
  refine gt_5_5 F hP 0 rfl inX5_trace_5 kX5_trace_223 dX5_trace_1 ?_
  exact retI F hP hS dX5_trace_4 hf
abbrev rmX5_fault : Room := { frames := 0, cells := 0, slots := 0, locals := 0 }
theorem hdX5_fault : yX5_fault.cls = RX5 ∧ yX5_fault.cls ≠ "java/lang/invoke/MethodHandle" ∧ yX5_fault.cls ≠ "java/lang/invoke/VarHandle" ∧ (parseMethodDescriptor yX5_fault.desc).map (fun d => d.parameters.length) = some 0 := by decide +kernel
theorem kX5_fault_42 : Cond.fieldLink RX5 42 "PaperLayers" "latestFault" "I" ∈ wsX5_fault := List.mem_cons_of_mem _ (List.mem_append_left _ (List.mem_of_getElem? (i := 0) rfl))
theorem inX5_fault_5 : ∀ w ∈ wsX50, w ∈ wsX5_fault := fun _ h => List.mem_cons_of_mem _ (List.mem_append_right _ (h))
set_option maxHeartbeats 4000000 in
set_option maxRecDepth 100000 in
theorem mX5_fault (l : Launch) (G : GT) (hG : GD G) (μ : Mem) (r : Int32) (μ' : Mem) (hf : fX5_fault μ = some (r, μ')) : Ct l yX5_fault wsX5_fault rmX5_fault G [.ref (ga G 0)] μ (some (.int r)) μ' := by
  refine Ct.of (cc := cX5_fault) (maxL := 1) (ret := (some .int)) (own := RX5) hG (by decide) rfl rfl (Nat.le_of_ble_eq_true rfl) ?_
  intro p e s m args below meth c ls H locs F hl hP hS
  have hl : lv_has ls 1 [(0, .ref (ga G 0))] := hl
  unfold fX5_fault at hf
  refine lv_aload_n F.1.1 F.1.2.1 dX5_fault_0 rfl (lv_at hl 0 rfl) ?_
  refine gt_5_6 F hP 0 rfl inX5_fault_5 kX5_fault_42 dX5_fault_1 ?_
  exact retI F hP hS dX5_fault_4 hf
abbrev rmX5_many : Room := { frames := 2, cells := 0, slots := 0, locals := 42 }
theorem hdX5_many : yX5_many.cls = RX5 ∧ yX5_many.cls ≠ "java/lang/invoke/MethodHandle" ∧ yX5_many.cls ≠ "java/lang/invoke/VarHandle" ∧ (parseMethodDescriptor yX5_many.desc).map (fun d => d.parameters.length) = some 1 := by decide +kernel
theorem kX5_many_109 : Cond.fieldLink RX5 109 "PaperLayers$Wall" "warm" "I" ∈ wsX5_many := List.mem_cons_of_mem _ (List.mem_append_left _ (List.mem_append_left _ (List.mem_append_left _ (List.mem_append_left _ (List.mem_append_left _ (List.mem_of_getElem? (i := 2) rfl))))))
theorem kX5_many_112 : Cond.fieldLink RX5 112 "PaperLayers$Wall" "damp" "I" ∈ wsX5_many := List.mem_cons_of_mem _ (List.mem_append_left _ (List.mem_append_left _ (List.mem_append_left _ (List.mem_append_left _ (List.mem_append_left _ (List.mem_of_getElem? (i := 3) rfl))))))
theorem kX5_many_12 : Cond.fieldLink RX5 12 "PaperLayers" "now" "LPaperLayers$Wall;" ∈ wsX5_many := List.mem_cons_of_mem _ (List.mem_append_left _ (List.mem_append_left _ (List.mem_append_left _ (List.mem_append_left _ (List.mem_append_left _ (List.mem_of_getElem? (i := 0) rfl))))))
theorem kX5_many_24 : Cond.fieldLink RX5 24 "PaperLayers" "readings" "LPaperLayers$Readings;" ∈ wsX5_many := List.mem_cons_of_mem _ (List.mem_append_left _ (List.mem_append_left _ (List.mem_append_left _ (List.mem_append_left _ (List.mem_append_left _ (List.mem_of_getElem? (i := 4) rfl))))))
theorem kX5_many_73 : Cond.fieldLink RX5 73 "PaperLayers$Readings" "count" "I" ∈ wsX5_many := List.mem_cons_of_mem _ (List.mem_append_left _ (List.mem_append_left _ (List.mem_append_left _ (List.mem_append_left _ (List.mem_append_left _ (List.mem_of_getElem? (i := 5) rfl))))))
theorem kX5_many_76 : Cond.fieldLink RX5 76 "PaperLayers$Wall" "count" "I" ∈ wsX5_many := List.mem_cons_of_mem _ (List.mem_append_left _ (List.mem_append_left _ (List.mem_append_left _ (List.mem_append_left _ (List.mem_append_left _ (List.mem_of_getElem? (i := 1) rfl))))))
theorem inX5_many_2 : ∀ w ∈ wsX20, w ∈ wsX5_many := fun _ h => List.mem_cons_of_mem _ (List.mem_append_left _ (List.mem_append_right _ (h)))
theorem inX5_many_4 : ∀ w ∈ wsX40, w ∈ wsX5_many := fun _ h => List.mem_cons_of_mem _ (List.mem_append_left _ (List.mem_append_left _ (List.mem_append_right _ (h))))
theorem inX5_many_5 : ∀ w ∈ wsX50, w ∈ wsX5_many := fun _ h => List.mem_cons_of_mem _ (List.mem_append_left _ (List.mem_append_left _ (List.mem_append_left _ (List.mem_append_right _ (h)))))
set_option maxHeartbeats 4000000 in
set_option maxRecDepth 100000 in
theorem mX5_many (l : Launch) (G : GT) (hG : GD G) (x1 : Int32) (μ : Mem) (r : Int32) (μ' : Mem) (hf : fX5_many x1 μ = some (r, μ')) : Ct l yX5_many wsX5_many rmX5_many G [.ref (ga G 0), .int x1] μ (some (.int r)) μ' := by
  refine Ct.of (cc := cX5_many) (maxL := 2) (ret := (some .int)) (own := RX5) hG (by decide) rfl rfl (Nat.le_of_ble_eq_true rfl) ?_
  intro p e s m args below meth c ls H locs F hl hP hS
  have hl : lv_has ls 2 [(0, .ref (ga G 0)), (1, .int x1)] := hl
  unfold fX5_many at hf
  refine lv_iload_n F.1.1 F.1.2.1 dX5_many_0 rfl (lv_at hl 1 rfl) ?_
  refine split_sw (k := (0 : Int32)) hf (fun hk0 hf => ?_) (fun hn0 hf => ?_)
  · refine lv_tableIn (tgt := 36) (off := 35) F.1.1 F.1.2.1 dX5_many_1 (by rw [hk0]; decide) (by rw [hk0]; decide) (by rw [hk0]; rfl) (by decide) ?_
    refine lv_aload_n F.1.1 F.1.2.1 dX5_many_36 rfl (lv_at hl 0 rfl) ?_
    refine gt_5_0 F hP 0 rfl inX5_many_5 kX5_many_12 dX5_many_37 ?_
    refine gt_4_1 F hP 1 rfl inX5_many_4 kX5_many_76 dX5_many_40 ?_
    exact retI F hP hS dX5_many_43 hf
  refine split_sw (k := (1 : Int32)) hf (fun hk1 hf => ?_) (fun hn1 hf => ?_)
  · refine lv_tableIn (tgt := 44) (off := 43) F.1.1 F.1.2.1 dX5_many_1 (by rw [hk1]; decide) (by rw [hk1]; decide) (by rw [hk1]; rfl) (by decide) ?_
    refine lv_aload_n F.1.1 F.1.2.1 dX5_many_44 rfl (lv_at hl 0 rfl) ?_
    refine gt_5_0 F hP 0 rfl inX5_many_5 kX5_many_12 dX5_many_45 ?_
    refine gt_4_2 F hP 1 rfl inX5_many_4 kX5_many_109 dX5_many_48 ?_
    exact retI F hP hS dX5_many_51 hf
  refine split_sw (k := (2 : Int32)) hf (fun hk2 hf => ?_) (fun hn2 hf => ?_)
  · refine lv_tableIn (tgt := 52) (off := 51) F.1.1 F.1.2.1 dX5_many_1 (by rw [hk2]; decide) (by rw [hk2]; decide) (by rw [hk2]; rfl) (by decide) ?_
    refine lv_aload_n F.1.1 F.1.2.1 dX5_many_52 rfl (lv_at hl 0 rfl) ?_
    refine gt_5_0 F hP 0 rfl inX5_many_5 kX5_many_12 dX5_many_53 ?_
    refine gt_4_3 F hP 1 rfl inX5_many_4 kX5_many_112 dX5_many_56 ?_
    exact retI F hP hS dX5_many_59 hf
  refine split_sw (k := (3 : Int32)) hf (fun hk3 hf => ?_) (fun hn3 hf => ?_)
  · refine lv_tableIn (tgt := 60) (off := 59) F.1.1 F.1.2.1 dX5_many_1 (by rw [hk3]; decide) (by rw [hk3]; decide) (by rw [hk3]; rfl) (by decide) ?_
    refine lv_aload_n F.1.1 F.1.2.1 dX5_many_60 rfl (lv_at hl 0 rfl) ?_
    refine gt_5_0 F hP 0 rfl inX5_many_5 kX5_many_12 dX5_many_61 ?_
    refine lv_aload_n F.1.1 F.1.2.1 dX5_many_64 rfl (lv_at hl 0 rfl) ?_
    refine gt_5_0 F hP 0 rfl inX5_many_5 kX5_many_12 dX5_many_65 ?_
    obtain ⟨r_3, μ_1, hc_2, hf⟩ := bnd_some hf
    refine rV1 (R := rmX5_many) (As := []) (rest := [.ref (ga G 1)]) F hP hS hl (mX4_warmth l G F.2.2.2.2 1 rfl _ _ _ hc_2) gX5_many_X4_warmth rfl hdX4_warmth rfl rfl rfl ⟨Nat.le_of_ble_eq_true rfl, Nat.le_of_ble_eq_true rfl⟩ (by decide) rfl rfl rfl (Nat.le_of_ble_eq_true rfl) ⟨Nat.le_of_ble_eq_true rfl, Nat.le_of_ble_eq_true rfl⟩ dX5_many_68 (fun H locs hP hS => ?_)
    obtain ⟨r_6, μ_4, hc_5, hf⟩ := bnd_some hf
    refine rV1 (R := rmX5_many) (As := [.int r_3]) (rest := []) F hP hS hl (mX4_heardBy l G F.2.2.2.2 1 rfl r_3 _ _ _ hc_5) gX5_many_X4_heardBy rfl hdX4_heardBy rfl rfl rfl ⟨Nat.le_of_ble_eq_true rfl, Nat.le_of_ble_eq_true rfl⟩ (by decide) rfl rfl rfl (Nat.le_of_ble_eq_true rfl) ⟨Nat.le_of_ble_eq_true rfl, Nat.le_of_ble_eq_true rfl⟩ dX5_many_71 (fun H locs hP hS => ?_)
    exact retI F hP hS dX5_many_74 hf
  refine split_sw (k := (4 : Int32)) hf (fun hk4 hf => ?_) (fun hn4 hf => ?_)
  · refine lv_tableIn (tgt := 75) (off := 74) F.1.1 F.1.2.1 dX5_many_1 (by rw [hk4]; decide) (by rw [hk4]; decide) (by rw [hk4]; rfl) (by decide) ?_
    refine lv_aload_n F.1.1 F.1.2.1 dX5_many_75 rfl (lv_at hl 0 rfl) ?_
    refine gt_5_2 F hP 0 rfl inX5_many_5 kX5_many_24 dX5_many_76 ?_
    refine gt_2_2 F hP 17 rfl inX5_many_2 kX5_many_73 dX5_many_79 ?_
    exact retI F hP hS dX5_many_82 hf
  refine lv_tableOut (tgt := 83) F.1.1 F.1.2.1 dX5_many_1 (by have q0 := lv_neT hn0 (a := 0) (by decide); have q1 := lv_neT hn1 (a := 1) (by decide); have q2 := lv_neT hn2 (a := 2) (by decide); have q3 := lv_neT hn3 (a := 3) (by decide); have q4 := lv_neT hn4 (a := 4) (by decide); omega) (by decide) ?_
  refine lv_bipush (v := (-2 : Int32)) F.1.1 F.1.2.1 dX5_many_83 (by decide) ?_
  exact retI F hP hS dX5_many_85 hf
abbrev rmX6_fails : Room := { frames := 0, cells := 0, slots := 0, locals := 0 }
theorem hdX6_fails : yX6_fails.cls = RX6 ∧ yX6_fails.cls ≠ "java/lang/invoke/MethodHandle" ∧ yX6_fails.cls ≠ "java/lang/invoke/VarHandle" ∧ (parseMethodDescriptor yX6_fails.desc).map (fun d => d.parameters.length) = some 1 := by decide +kernel
theorem kX6_fails_46 : Cond.fieldLink RX6 46 "PaperLayersModel" "fault" "I" ∈ wsX6_fails := List.mem_cons_of_mem _ (List.mem_append_left _ (List.mem_of_getElem? (i := 0) rfl))
theorem inX6_fails_6 : ∀ w ∈ wsX60, w ∈ wsX6_fails := fun _ h => List.mem_cons_of_mem _ (List.mem_append_right _ (h))
set_option maxHeartbeats 4000000 in
set_option maxRecDepth 100000 in
theorem mX6_fails (l : Launch) (G : GT) (hG : GD G) (x1 : Int32) (μ : Mem) (r : Int32) (μ' : Mem) (hf : fX6_fails x1 μ = some (r, μ')) : Ct l yX6_fails wsX6_fails rmX6_fails G [.ref (ga G 31), .int x1] μ (some (.int r)) μ' := by
  refine Ct.of (cc := cX6_fails) (maxL := 2) (ret := (some .int)) (own := RX6) hG (by decide) rfl rfl (Nat.le_of_ble_eq_true rfl) ?_
  intro p e s m args below meth c ls H locs F hl hP hS
  have hl : lv_has ls 2 [(0, .ref (ga G 31)), (1, .int x1)] := hl
  unfold fX6_fails at hf
  refine lv_aload_n F.1.1 F.1.2.1 dX6_fails_0 rfl (lv_at hl 0 rfl) ?_
  refine lv_iload_n F.1.1 F.1.2.1 dX6_fails_1 rfl (lv_at hl 1 rfl) ?_
  refine pt_6_0 F hP hS 31 rfl inX6_fails_6 kX6_fails_46 dX6_fails_2 hf (fun μ_1 H locs hP hS hf => ?_)
  refine lv_bipush (v := (-10 : Int32)) F.1.1 F.1.2.1 dX6_fails_5 (by decide) ?_
  refine lv_iload_n F.1.1 F.1.2.1 dX6_fails_7 rfl (lv_at hl 1 rfl) ?_
  refine lv_isub F.1.1 F.1.2.1 dX6_fails_8 ?_
  exact retI F hP hS dX6_fails_9 hf
abbrev rmX6_lost : Room := { frames := 0, cells := 0, slots := 0, locals := 0 }
theorem hdX6_lost : yX6_lost.cls = RX6 ∧ yX6_lost.cls ≠ "java/lang/invoke/MethodHandle" ∧ yX6_lost.cls ≠ "java/lang/invoke/VarHandle" ∧ (parseMethodDescriptor yX6_lost.desc).map (fun d => d.parameters.length) = some 1 := by decide +kernel
theorem kX6_lost_46 : Cond.fieldLink RX6 46 "PaperLayersModel" "fault" "I" ∈ wsX6_lost := List.mem_cons_of_mem _ (List.mem_append_left _ (List.mem_of_getElem? (i := 0) rfl))
theorem kX6_lost_50 : Cond.constantLong RX6 50 (-9223372036854775808) ∈ wsX6_lost := List.mem_cons_of_mem _ (List.mem_append_left _ (List.mem_of_getElem? (i := 1) rfl))
theorem inX6_lost_6 : ∀ w ∈ wsX60, w ∈ wsX6_lost := fun _ h => List.mem_cons_of_mem _ (List.mem_append_right _ (h))
set_option maxHeartbeats 4000000 in
set_option maxRecDepth 100000 in
theorem mX6_lost (l : Launch) (G : GT) (hG : GD G) (x1 : Int32) (μ : Mem) (r : Int64) (μ' : Mem) (hf : fX6_lost x1 μ = some (r, μ')) : Ct l yX6_lost wsX6_lost rmX6_lost G [.ref (ga G 31), .int x1] μ (some (.long r)) μ' := by
  refine Ct.of (cc := cX6_lost) (maxL := 2) (ret := (some .long)) (own := RX6) hG (by decide) rfl rfl (Nat.le_of_ble_eq_true rfl) ?_
  intro p e s m args below meth c ls H locs F hl hP hS
  have hl : lv_has ls 2 [(0, .ref (ga G 31)), (1, .int x1)] := hl
  unfold fX6_lost at hf
  refine lv_aload_n F.1.1 F.1.2.1 dX6_lost_0 rfl (lv_at hl 0 rfl) ?_
  refine lv_iload_n F.1.1 F.1.2.1 dX6_lost_1 rfl (lv_at hl 1 rfl) ?_
  refine pt_6_0 F hP hS 31 rfl inX6_lost_6 kX6_lost_46 dX6_lost_2 hf (fun μ_1 H locs hP hS hf => ?_)
  refine lv_ldc2 (v := (-9223372036854775808 : Int64)) F.1.1 F.1.2.1 F.1.2.2.2.1 (F.1.2.2.2.2 _ kX6_lost_50) dX6_lost_5 ?_
  exact retL F hP hS dX6_lost_8 hf
abbrev rmX6_within : Room := { frames := 0, cells := 0, slots := 0, locals := 0 }
theorem hdX6_within : yX6_within.cls ≠ "java/lang/invoke/MethodHandle" ∧ yX6_within.cls ≠ "java/lang/invoke/VarHandle" ∧ (parseMethodDescriptor yX6_within.desc).map (fun d => d.parameters.length) = some 3 := by decide +kernel
set_option maxHeartbeats 4000000 in
set_option maxRecDepth 100000 in
theorem mX6_within (l : Launch) (G : GT) (hG : GD G) (x0 : Int32) (x1 : Int32) (x2 : Int32) (μ : Mem) (r : Int32) (μ' : Mem) (hf : fX6_within x0 x1 x2 μ = some (r, μ')) : Ct l yX6_within wsX6_within rmX6_within G [.int x0, .int x1, .int x2] μ (some (.int r)) μ' := by
  refine Ct.of (cc := cX6_within) (maxL := 3) (ret := (some .boolean)) (own := RX6) hG (by decide) rfl rfl (Nat.le_of_ble_eq_true rfl) ?_
  intro p e s m args below meth c ls H locs F hl hP hS
  have hl : lv_has ls 3 [(0, .int x0), (1, .int x1), (2, .int x2)] := hl
  unfold fX6_within at hf
  refine lv_iload_n F.1.1 F.1.2.1 dX6_within_0 rfl (lv_at hl 0 rfl) ?_
  refine lv_iload_n F.1.1 F.1.2.1 dX6_within_1 rfl (lv_at hl 1 rfl) ?_
  refine jc_lt (tgt := 14) F dX6_within_2 (by decide) hf (fun hf => ?_) (fun hf => ?_)
  · refine lv_iconst (v := (0 : Int32)) F.1.1 F.1.2.1 dX6_within_14 (by decide) ?_
    exact retC F hP hS dX6_within_15 (by decide) hf
  · refine lv_iload_n F.1.1 F.1.2.1 dX6_within_5 rfl (lv_at hl 0 rfl) ?_
    refine lv_iload_n F.1.1 F.1.2.1 dX6_within_6 rfl (lv_at hl 2 rfl) ?_
    refine jc_gt (tgt := 14) F dX6_within_7 (by decide) hf (fun hf => ?_) (fun hf => ?_)
    · refine lv_iconst (v := (0 : Int32)) F.1.1 F.1.2.1 dX6_within_14 (by decide) ?_
      exact retC F hP hS dX6_within_15 (by decide) hf
    · refine lv_iconst (v := (1 : Int32)) F.1.1 F.1.2.1 dX6_within_10 (by decide) ?_
      refine lv_goto (tgt := 15) F.1.1 F.1.2.1 dX6_within_11 (by decide) ?_
      exact retC F hP hS dX6_within_15 (by decide) hf
abbrev rmX6_isSheet : Room := { frames := 1, cells := 0, slots := 0, locals := 22 }
theorem hdX6_isSheet : yX6_isSheet.cls ≠ "java/lang/invoke/MethodHandle" ∧ yX6_isSheet.cls ≠ "java/lang/invoke/VarHandle" ∧ (parseMethodDescriptor yX6_isSheet.desc).map (fun d => d.parameters.length) = some 1 := by decide +kernel
set_option maxHeartbeats 4000000 in
set_option maxRecDepth 100000 in
theorem mX6_isSheet (l : Launch) (G : GT) (hG : GD G) (x0 : Int32) (μ : Mem) (r : Int32) (μ' : Mem) (hf : fX6_isSheet x0 μ = some (r, μ')) : Ct l yX6_isSheet wsX6_isSheet rmX6_isSheet G [.int x0] μ (some (.int r)) μ' := by
  refine Ct.of (cc := cX6_isSheet) (maxL := 1) (ret := (some .boolean)) (own := RX6) hG (by decide) rfl rfl (Nat.le_of_ble_eq_true rfl) ?_
  intro p e s m args below meth c ls H locs F hl hP hS
  have hl : lv_has ls 1 [(0, .int x0)] := hl
  unfold fX6_isSheet at hf
  refine lv_iload_n F.1.1 F.1.2.1 dX6_isSheet_0 rfl (lv_at hl 0 rfl) ?_
  refine lv_iconst (v := (0 : Int32)) F.1.1 F.1.2.1 dX6_isSheet_1 (by decide) ?_
  refine lv_iconst (v := (3 : Int32)) F.1.1 F.1.2.1 dX6_isSheet_2 (by decide) ?_
  obtain ⟨r_3, μ_1, hc_2, hf⟩ := bnd_some hf
  refine rS1 (R := rmX6_isSheet) (As := [.int x0, .int (0 : Int32), .int (3 : Int32)]) (rest := []) F hP hS hl (mX6_within l G F.2.2.2.2 x0 (0 : Int32) (3 : Int32) _ _ _ hc_2) gX6_isSheet_X6_within hdX6_within rfl rfl rfl ⟨Nat.le_of_ble_eq_true rfl, Nat.le_of_ble_eq_true rfl⟩ rfl rfl (Nat.le_of_ble_eq_true rfl) ⟨Nat.le_of_ble_eq_true rfl, Nat.le_of_ble_eq_true rfl⟩ dX6_isSheet_3 (fun H locs hP hS => ?_)
  exact retZ F hP hS dX6_isSheet_6 hf
abbrev rmX6_isSort : Room := { frames := 1, cells := 0, slots := 0, locals := 22 }
theorem hdX6_isSort : yX6_isSort.cls ≠ "java/lang/invoke/MethodHandle" ∧ yX6_isSort.cls ≠ "java/lang/invoke/VarHandle" ∧ (parseMethodDescriptor yX6_isSort.desc).map (fun d => d.parameters.length) = some 1 := by decide +kernel
set_option maxHeartbeats 4000000 in
set_option maxRecDepth 100000 in
theorem mX6_isSort (l : Launch) (G : GT) (hG : GD G) (x0 : Int32) (μ : Mem) (r : Int32) (μ' : Mem) (hf : fX6_isSort x0 μ = some (r, μ')) : Ct l yX6_isSort wsX6_isSort rmX6_isSort G [.int x0] μ (some (.int r)) μ' := by
  refine Ct.of (cc := cX6_isSort) (maxL := 1) (ret := (some .boolean)) (own := RX6) hG (by decide) rfl rfl (Nat.le_of_ble_eq_true rfl) ?_
  intro p e s m args below meth c ls H locs F hl hP hS
  have hl : lv_has ls 1 [(0, .int x0)] := hl
  unfold fX6_isSort at hf
  refine lv_iload_n F.1.1 F.1.2.1 dX6_isSort_0 rfl (lv_at hl 0 rfl) ?_
  refine lv_iconst (v := (0 : Int32)) F.1.1 F.1.2.1 dX6_isSort_1 (by decide) ?_
  refine lv_iconst (v := (2 : Int32)) F.1.1 F.1.2.1 dX6_isSort_2 (by decide) ?_
  obtain ⟨r_3, μ_1, hc_2, hf⟩ := bnd_some hf
  refine rS1 (R := rmX6_isSort) (As := [.int x0, .int (0 : Int32), .int (2 : Int32)]) (rest := []) F hP hS hl (mX6_within l G F.2.2.2.2 x0 (0 : Int32) (2 : Int32) _ _ _ hc_2) gX6_isSort_X6_within hdX6_within rfl rfl rfl ⟨Nat.le_of_ble_eq_true rfl, Nat.le_of_ble_eq_true rfl⟩ rfl rfl (Nat.le_of_ble_eq_true rfl) ⟨Nat.le_of_ble_eq_true rfl, Nat.le_of_ble_eq_true rfl⟩ dX6_isSort_3 (fun H locs hP hS => ?_)
  exact retZ F hP hS dX6_isSort_6 hf
abbrev rmX6_against : Room := { frames := 0, cells := 0, slots := 0, locals := 0 }
theorem hdX6_against : yX6_against.cls = RX6 ∧ yX6_against.cls ≠ "java/lang/invoke/MethodHandle" ∧ yX6_against.cls ≠ "java/lang/invoke/VarHandle" ∧ (parseMethodDescriptor yX6_against.desc).map (fun d => d.parameters.length) = some 4 := by decide +kernel
theorem kX6_against_13 : Cond.fieldLink RX6 13 "PaperLayersModel" "sheetLong" "[I" ∈ wsX6_against := List.mem_cons_of_mem _ (List.mem_append_left _ (List.mem_of_getElem? (i := 1) rfl))
theorem kX6_against_9 : Cond.fieldLink RX6 9 "PaperLayersModel" "sorts" "[I" ∈ wsX6_against := List.mem_cons_of_mem _ (List.mem_append_left _ (List.mem_of_getElem? (i := 0) rfl))
theorem inX6_against_6 : ∀ w ∈ wsX60, w ∈ wsX6_against := fun _ h => List.mem_cons_of_mem _ (List.mem_append_right _ (h))
set_option maxHeartbeats 4000000 in
set_option maxRecDepth 100000 in
theorem mX6_against (l : Launch) (G : GT) (hG : GD G) (x1 : Int32) (x2 : Int32) (x3 : Int32) (x4 : Int32) (μ : Mem) (r : Int32) (μ' : Mem) (hf : fX6_against x1 x2 x3 x4 μ = some (r, μ')) : Ct l yX6_against wsX6_against rmX6_against G [.ref (ga G 31), .int x1, .int x2, .int x3, .int x4] μ (some (.int r)) μ' := by
  refine Ct.of (cc := cX6_against) (maxL := 5) (ret := (some .int)) (own := RX6) hG (by decide) rfl rfl (Nat.le_of_ble_eq_true rfl) ?_
  intro p e s m args below meth c ls H locs F hl hP hS
  have hl : lv_has ls 5 [(0, .ref (ga G 31)), (1, .int x1), (2, .int x2), (3, .int x3), (4, .int x4)] := hl
  unfold fX6_against at hf
  refine lv_aload_n F.1.1 F.1.2.1 dX6_against_0 rfl (lv_at hl 0 rfl) ?_
  refine gt_6_2 F hP 31 rfl inX6_against_6 kX6_against_9 dX6_against_1 ?_
  refine lv_iload_n F.1.1 F.1.2.1 dX6_against_4 rfl (lv_at hl 1 rfl) ?_
  refine r_ial F hP 32 rfl rfl dX6_against_5 hf (fun hf => ?_)
  refine lv_bipush (v := (-9 : Int32)) F.1.1 F.1.2.1 dX6_against_6 (by decide) ?_
  refine jc_eq (tgt := 23) F dX6_against_8 (by decide) hf (fun hf => ?_) (fun hf => ?_)
  · refine lv_aload_n F.1.1 F.1.2.1 dX6_against_23 rfl (lv_at hl 0 rfl) ?_
    refine gt_6_2 F hP 31 rfl inX6_against_6 kX6_against_9 dX6_against_24 ?_
    refine lv_iload_n F.1.1 F.1.2.1 dX6_against_27 rfl (lv_at hl 1 rfl) ?_
    refine r_ial F hP 32 rfl rfl dX6_against_28 hf (fun hf => ?_)
    refine lv_bipush (v := (-9 : Int32)) F.1.1 F.1.2.1 dX6_against_29 (by decide) ?_
    refine jc_ne (tgt := 36) F dX6_against_31 (by decide) hf (fun hf => ?_) (fun hf => ?_)
    · refine lv_iload F.1.1 F.1.2.1 dX6_against_36 (lv_at hl 4 rfl) ?_
      refine jz_ge (tgt := 43) F dX6_against_38 (by decide) hf (fun hf => ?_) (fun hf => ?_)
      · refine lv_iload_n F.1.1 F.1.2.1 dX6_against_43 rfl (lv_at hl 3 rfl) ?_
        refine jz_lt (tgt := 70) F dX6_against_44 (by decide) hf (fun hf => ?_) (fun hf => ?_)
        · refine lv_iconst (v := (3 : Int32)) F.1.1 F.1.2.1 dX6_against_70 (by decide) ?_
          refine lv_goto (tgt := 75) F.1.1 F.1.2.1 dX6_against_71 (by decide) ?_
          exact retI F hP hS dX6_against_75 hf
        · refine lv_iload_n F.1.1 F.1.2.1 dX6_against_47 rfl (lv_at hl 3 rfl) ?_
          refine lv_aload_n F.1.1 F.1.2.1 dX6_against_48 rfl (lv_at hl 0 rfl) ?_
          refine gt_6_3 F hP 31 rfl inX6_against_6 kX6_against_13 dX6_against_49 ?_
          refine lv_iload_n F.1.1 F.1.2.1 dX6_against_52 rfl (lv_at hl 1 rfl) ?_
          refine r_ial F hP 33 rfl rfl dX6_against_53 hf (fun hf => ?_)
          refine jc_gt (tgt := 70) F dX6_against_54 (by decide) hf (fun hf => ?_) (fun hf => ?_)
          · refine lv_iconst (v := (3 : Int32)) F.1.1 F.1.2.1 dX6_against_70 (by decide) ?_
            refine lv_goto (tgt := 75) F.1.1 F.1.2.1 dX6_against_71 (by decide) ?_
            exact retI F hP hS dX6_against_75 hf
          · refine lv_iload F.1.1 F.1.2.1 dX6_against_57 (lv_at hl 4 rfl) ?_
            refine lv_aload_n F.1.1 F.1.2.1 dX6_against_59 rfl (lv_at hl 0 rfl) ?_
            refine gt_6_3 F hP 31 rfl inX6_against_6 kX6_against_13 dX6_against_60 ?_
            refine lv_iload_n F.1.1 F.1.2.1 dX6_against_63 rfl (lv_at hl 1 rfl) ?_
            refine r_ial F hP 33 rfl rfl dX6_against_64 hf (fun hf => ?_)
            refine lv_iload_n F.1.1 F.1.2.1 dX6_against_65 rfl (lv_at hl 3 rfl) ?_
            refine lv_isub F.1.1 F.1.2.1 dX6_against_66 ?_
            refine jc_le (tgt := 74) F dX6_against_67 (by decide) hf (fun hf => ?_) (fun hf => ?_)
            · refine lv_iconst (v := (0 : Int32)) F.1.1 F.1.2.1 dX6_against_74 (by decide) ?_
              exact retI F hP hS dX6_against_75 hf
            · refine lv_iconst (v := (3 : Int32)) F.1.1 F.1.2.1 dX6_against_70 (by decide) ?_
              refine lv_goto (tgt := 75) F.1.1 F.1.2.1 dX6_against_71 (by decide) ?_
              exact retI F hP hS dX6_against_75 hf
      · refine lv_iconst (v := (4 : Int32)) F.1.1 F.1.2.1 dX6_against_41 (by decide) ?_
        exact retI F hP hS dX6_against_42 hf
    · refine lv_iconst (v := (1 : Int32)) F.1.1 F.1.2.1 dX6_against_34 (by decide) ?_
      exact retI F hP hS dX6_against_35 hf
  · refine lv_aload_n F.1.1 F.1.2.1 dX6_against_11 rfl (lv_at hl 0 rfl) ?_
    refine gt_6_2 F hP 31 rfl inX6_against_6 kX6_against_9 dX6_against_12 ?_
    refine lv_iload_n F.1.1 F.1.2.1 dX6_against_15 rfl (lv_at hl 1 rfl) ?_
    refine r_ial F hP 32 rfl rfl dX6_against_16 hf (fun hf => ?_)
    refine lv_iload_n F.1.1 F.1.2.1 dX6_against_17 rfl (lv_at hl 2 rfl) ?_
    refine jc_eq (tgt := 23) F dX6_against_18 (by decide) hf (fun hf => ?_) (fun hf => ?_)
    · refine lv_aload_n F.1.1 F.1.2.1 dX6_against_23 rfl (lv_at hl 0 rfl) ?_
      refine gt_6_2 F hP 31 rfl inX6_against_6 kX6_against_9 dX6_against_24 ?_
      refine lv_iload_n F.1.1 F.1.2.1 dX6_against_27 rfl (lv_at hl 1 rfl) ?_
      refine r_ial F hP 32 rfl rfl dX6_against_28 hf (fun hf => ?_)
      refine lv_bipush (v := (-9 : Int32)) F.1.1 F.1.2.1 dX6_against_29 (by decide) ?_
      refine jc_ne (tgt := 36) F dX6_against_31 (by decide) hf (fun hf => ?_) (fun hf => ?_)
      · refine lv_iload F.1.1 F.1.2.1 dX6_against_36 (lv_at hl 4 rfl) ?_
        refine jz_ge (tgt := 43) F dX6_against_38 (by decide) hf (fun hf => ?_) (fun hf => ?_)
        · refine lv_iload_n F.1.1 F.1.2.1 dX6_against_43 rfl (lv_at hl 3 rfl) ?_
          refine jz_lt (tgt := 70) F dX6_against_44 (by decide) hf (fun hf => ?_) (fun hf => ?_)
          · refine lv_iconst (v := (3 : Int32)) F.1.1 F.1.2.1 dX6_against_70 (by decide) ?_
            refine lv_goto (tgt := 75) F.1.1 F.1.2.1 dX6_against_71 (by decide) ?_
            exact retI F hP hS dX6_against_75 hf
          · refine lv_iload_n F.1.1 F.1.2.1 dX6_against_47 rfl (lv_at hl 3 rfl) ?_
            refine lv_aload_n F.1.1 F.1.2.1 dX6_against_48 rfl (lv_at hl 0 rfl) ?_
            refine gt_6_3 F hP 31 rfl inX6_against_6 kX6_against_13 dX6_against_49 ?_
            refine lv_iload_n F.1.1 F.1.2.1 dX6_against_52 rfl (lv_at hl 1 rfl) ?_
            refine r_ial F hP 33 rfl rfl dX6_against_53 hf (fun hf => ?_)
            refine jc_gt (tgt := 70) F dX6_against_54 (by decide) hf (fun hf => ?_) (fun hf => ?_)
            · refine lv_iconst (v := (3 : Int32)) F.1.1 F.1.2.1 dX6_against_70 (by decide) ?_
              refine lv_goto (tgt := 75) F.1.1 F.1.2.1 dX6_against_71 (by decide) ?_
              exact retI F hP hS dX6_against_75 hf
            · refine lv_iload F.1.1 F.1.2.1 dX6_against_57 (lv_at hl 4 rfl) ?_
              refine lv_aload_n F.1.1 F.1.2.1 dX6_against_59 rfl (lv_at hl 0 rfl) ?_
              refine gt_6_3 F hP 31 rfl inX6_against_6 kX6_against_13 dX6_against_60 ?_
              refine lv_iload_n F.1.1 F.1.2.1 dX6_against_63 rfl (lv_at hl 1 rfl) ?_
              refine r_ial F hP 33 rfl rfl dX6_against_64 hf (fun hf => ?_)
              refine lv_iload_n F.1.1 F.1.2.1 dX6_against_65 rfl (lv_at hl 3 rfl) ?_
              refine lv_isub F.1.1 F.1.2.1 dX6_against_66 ?_
              refine jc_le (tgt := 74) F dX6_against_67 (by decide) hf (fun hf => ?_) (fun hf => ?_)
              · refine lv_iconst (v := (0 : Int32)) F.1.1 F.1.2.1 dX6_against_74 (by decide) ?_
                exact retI F hP hS dX6_against_75 hf
              · refine lv_iconst (v := (3 : Int32)) F.1.1 F.1.2.1 dX6_against_70 (by decide) ?_
                refine lv_goto (tgt := 75) F.1.1 F.1.2.1 dX6_against_71 (by decide) ?_
                exact retI F hP hS dX6_against_75 hf
        · refine lv_iconst (v := (4 : Int32)) F.1.1 F.1.2.1 dX6_against_41 (by decide) ?_
          exact retI F hP hS dX6_against_42 hf
      · refine lv_iconst (v := (1 : Int32)) F.1.1 F.1.2.1 dX6_against_34 (by decide) ?_
        exact retI F hP hS dX6_against_35 hf
    · refine lv_iconst (v := (2 : Int32)) F.1.1 F.1.2.1 dX6_against_21 (by decide) ?_
      exact retI F hP hS dX6_against_22 hf
abbrev rmX6_isLayer : Room := { frames := 0, cells := 0, slots := 0, locals := 0 }
theorem hdX6_isLayer : yX6_isLayer.cls = RX6 ∧ yX6_isLayer.cls ≠ "java/lang/invoke/MethodHandle" ∧ yX6_isLayer.cls ≠ "java/lang/invoke/VarHandle" ∧ (parseMethodDescriptor yX6_isLayer.desc).map (fun d => d.parameters.length) = some 1 := by decide +kernel
theorem kX6_isLayer_56 : Cond.fieldLink RX6 56 "PaperLayersModel" "layers" "I" ∈ wsX6_isLayer := List.mem_cons_of_mem _ (List.mem_append_left _ (List.mem_of_getElem? (i := 0) rfl))
theorem inX6_isLayer_6 : ∀ w ∈ wsX60, w ∈ wsX6_isLayer := fun _ h => List.mem_cons_of_mem _ (List.mem_append_right _ (h))
set_option maxHeartbeats 4000000 in
set_option maxRecDepth 100000 in
theorem mX6_isLayer (l : Launch) (G : GT) (hG : GD G) (x1 : Int32) (μ : Mem) (r : Int32) (μ' : Mem) (hf : fX6_isLayer x1 μ = some (r, μ')) : Ct l yX6_isLayer wsX6_isLayer rmX6_isLayer G [.ref (ga G 31), .int x1] μ (some (.int r)) μ' := by
  refine Ct.of (cc := cX6_isLayer) (maxL := 2) (ret := (some .boolean)) (own := RX6) hG (by decide) rfl rfl (Nat.le_of_ble_eq_true rfl) ?_
  intro p e s m args below meth c ls H locs F hl hP hS
  have hl : lv_has ls 2 [(0, .ref (ga G 31)), (1, .int x1)] := hl
  unfold fX6_isLayer at hf
  refine lv_iload_n F.1.1 F.1.2.1 dX6_isLayer_0 rfl (lv_at hl 1 rfl) ?_
  refine jz_lt (tgt := 16) F dX6_isLayer_1 (by decide) hf (fun hf => ?_) (fun hf => ?_)
  · refine lv_iconst (v := (0 : Int32)) F.1.1 F.1.2.1 dX6_isLayer_16 (by decide) ?_
    exact retC F hP hS dX6_isLayer_17 (by decide) hf
  · refine lv_iload_n F.1.1 F.1.2.1 dX6_isLayer_4 rfl (lv_at hl 1 rfl) ?_
    refine lv_aload_n F.1.1 F.1.2.1 dX6_isLayer_5 rfl (lv_at hl 0 rfl) ?_
    refine gt_6_5 F hP 31 rfl inX6_isLayer_6 kX6_isLayer_56 dX6_isLayer_6 ?_
    refine jc_ge (tgt := 16) F dX6_isLayer_9 (by decide) hf (fun hf => ?_) (fun hf => ?_)
    · refine lv_iconst (v := (0 : Int32)) F.1.1 F.1.2.1 dX6_isLayer_16 (by decide) ?_
      exact retC F hP hS dX6_isLayer_17 (by decide) hf
    · refine lv_iconst (v := (1 : Int32)) F.1.1 F.1.2.1 dX6_isLayer_12 (by decide) ?_
      refine lv_goto (tgt := 17) F.1.1 F.1.2.1 dX6_isLayer_13 (by decide) ?_
      exact retC F hP hS dX6_isLayer_17 (by decide) hf
abbrev rmX6_isDigit : Room := { frames := 1, cells := 0, slots := 0, locals := 22 }
theorem hdX6_isDigit : yX6_isDigit.cls ≠ "java/lang/invoke/MethodHandle" ∧ yX6_isDigit.cls ≠ "java/lang/invoke/VarHandle" ∧ (parseMethodDescriptor yX6_isDigit.desc).map (fun d => d.parameters.length) = some 1 := by decide +kernel
set_option maxHeartbeats 4000000 in
set_option maxRecDepth 100000 in
theorem mX6_isDigit (l : Launch) (G : GT) (hG : GD G) (x0 : Int32) (μ : Mem) (r : Int32) (μ' : Mem) (hf : fX6_isDigit x0 μ = some (r, μ')) : Ct l yX6_isDigit wsX6_isDigit rmX6_isDigit G [.int x0] μ (some (.int r)) μ' := by
  refine Ct.of (cc := cX6_isDigit) (maxL := 1) (ret := (some .boolean)) (own := RX6) hG (by decide) rfl rfl (Nat.le_of_ble_eq_true rfl) ?_
  intro p e s m args below meth c ls H locs F hl hP hS
  have hl : lv_has ls 1 [(0, .int x0)] := hl
  unfold fX6_isDigit at hf
  refine lv_iload_n F.1.1 F.1.2.1 dX6_isDigit_0 rfl (lv_at hl 0 rfl) ?_
  refine lv_iconst (v := (0 : Int32)) F.1.1 F.1.2.1 dX6_isDigit_1 (by decide) ?_
  refine lv_bipush (v := (9 : Int32)) F.1.1 F.1.2.1 dX6_isDigit_2 (by decide) ?_
  obtain ⟨r_3, μ_1, hc_2, hf⟩ := bnd_some hf
  refine rS1 (R := rmX6_isDigit) (As := [.int x0, .int (0 : Int32), .int (9 : Int32)]) (rest := []) F hP hS hl (mX6_within l G F.2.2.2.2 x0 (0 : Int32) (9 : Int32) _ _ _ hc_2) gX6_isDigit_X6_within hdX6_within rfl rfl rfl ⟨Nat.le_of_ble_eq_true rfl, Nat.le_of_ble_eq_true rfl⟩ rfl rfl (Nat.le_of_ble_eq_true rfl) ⟨Nat.le_of_ble_eq_true rfl, Nat.le_of_ble_eq_true rfl⟩ dX6_isDigit_4 (fun H locs hP hS => ?_)
  exact retZ F hP hS dX6_isDigit_7 hf
abbrev rmX6_isOf : Room := { frames := 0, cells := 0, slots := 0, locals := 0 }
theorem hdX6_isOf : yX6_isOf.cls ≠ "java/lang/invoke/MethodHandle" ∧ yX6_isOf.cls ≠ "java/lang/invoke/VarHandle" ∧ (parseMethodDescriptor yX6_isOf.desc).map (fun d => d.parameters.length) = some 2 := by decide +kernel
set_option maxHeartbeats 4000000 in
set_option maxRecDepth 100000 in
theorem mX6_isOf (l : Launch) (G : GT) (hG : GD G) (x0 : Int32) (x1 : Int32) (μ : Mem) (r : Int32) (μ' : Mem) (hf : fX6_isOf x0 x1 μ = some (r, μ')) : Ct l yX6_isOf wsX6_isOf rmX6_isOf G [.int x0, .int x1] μ (some (.int r)) μ' := by
  refine Ct.of (cc := cX6_isOf) (maxL := 2) (ret := (some .boolean)) (own := RX6) hG (by decide) rfl rfl (Nat.le_of_ble_eq_true rfl) ?_
  intro p e s m args below meth c ls H locs F hl hP hS
  have hl : lv_has ls 2 [(0, .int x0), (1, .int x1)] := hl
  unfold fX6_isOf at hf
  refine lv_iload_n F.1.1 F.1.2.1 dX6_isOf_0 rfl (lv_at hl 0 rfl) ?_
  refine lv_iload_n F.1.1 F.1.2.1 dX6_isOf_1 rfl (lv_at hl 1 rfl) ?_
  refine lv_ishr F.1.1 F.1.2.1 dX6_isOf_2 ?_
  refine lv_iconst (v := (1 : Int32)) F.1.1 F.1.2.1 dX6_isOf_3 (by decide) ?_
  refine lv_iand F.1.1 F.1.2.1 dX6_isOf_4 ?_
  refine lv_iconst (v := (1 : Int32)) F.1.1 F.1.2.1 dX6_isOf_5 (by decide) ?_
  refine jc_ne (tgt := 13) F dX6_isOf_6 (by decide) hf (fun hf => ?_) (fun hf => ?_)
  · refine lv_iconst (v := (0 : Int32)) F.1.1 F.1.2.1 dX6_isOf_13 (by decide) ?_
    exact retC F hP hS dX6_isOf_14 (by decide) hf
  · refine lv_iconst (v := (1 : Int32)) F.1.1 F.1.2.1 dX6_isOf_9 (by decide) ?_
    refine lv_goto (tgt := 14) F.1.1 F.1.2.1 dX6_isOf_10 (by decide) ?_
    exact retC F hP hS dX6_isOf_14 (by decide) hf
abbrev rmX6_size : Room := { frames := 0, cells := 0, slots := 0, locals := 0 }
theorem hdX6_size : yX6_size.cls ≠ "java/lang/invoke/MethodHandle" ∧ yX6_size.cls ≠ "java/lang/invoke/VarHandle" ∧ (parseMethodDescriptor yX6_size.desc).map (fun d => d.parameters.length) = some 1 := by decide +kernel
set_option maxHeartbeats 4000000 in
set_option maxRecDepth 100000 in
theorem lX6_size_L4 (l : Launch) (G : GT) {p : Program} {e : Env} {s : State} {m : MethodId} {args : Array Value} {below : List Frame} {meth : Method} {c : Code} (F : Fx p s m args meth c cX6_size 3 wsX6_size RX6 (some .int) G) (r : Int32) (μ' : Mem) : ∀ (fuel : Nat), ∀ (x1 : Int32) (x2 : Int32) (μ : Mem) (H : Heap) (locs : List Loc) (ls : Array Slot), Hh G μ H → va_S (gA G) s.heap H locs → lv_has ls 3 [(1, .int x1), (2, .int x2)] → fX6_size_L4 fuel x1 x2 μ = some (r, μ') → W p l e rmX6_size s m args below meth c H locs 0 0 (MQ below (Qg G (some (.int r)) μ') args s 0 0 (gA G)) (F0 m 4 ls []) := by
  intro fuel
  induction fuel with
  | zero =>
    intro x1 x2 μ H locs ls hP hS hl hf
    exact absurd hf (by intro h; cases h)
  | succ fuel ih4 =>
    intro x1 x2 μ H locs ls hP hS hl hf
    have hf : sX6_size_L4 (fX6_size_L4 fuel) x1 x2 μ = some (r, μ') := hf
    unfold sX6_size_L4 at hf
    refine lv_iload_n F.1.1 F.1.2.1 dX6_size_4 rfl (lv_at hl 1 rfl) ?_
    refine jz_le (tgt := 21) F dX6_size_5 (by decide) hf (fun hf => ?_) (fun hf => ?_)
    · refine lv_iload_n F.1.1 F.1.2.1 dX6_size_21 rfl (lv_at hl 0 rfl) ?_
      exact retI F hP hS dX6_size_22 hf
    · refine lv_iload_n F.1.1 F.1.2.1 dX6_size_8 rfl (lv_at hl 0 rfl) ?_
      refine lv_iload_n F.1.1 F.1.2.1 dX6_size_9 rfl (lv_at hl 1 rfl) ?_
      refine lv_iconst (v := (1 : Int32)) F.1.1 F.1.2.1 dX6_size_10 (by decide) ?_
      refine lv_iand F.1.1 F.1.2.1 dX6_size_11 ?_
      refine lv_iadd F.1.1 F.1.2.1 dX6_size_12 ?_
      refine top_i hf (fun y_1 hf => ?_)
      refine lv_istore_n (lv' := [(1, .int y_1), (2, .int x2)]) F.1.1 F.1.2.1 dX6_size_13 rfl hl (by decide) rfl (fun ls hl => ?_)
      refine lv_iload_n F.1.1 F.1.2.1 dX6_size_14 rfl (lv_at hl 1 rfl) ?_
      refine lv_iconst (v := (1 : Int32)) F.1.1 F.1.2.1 dX6_size_15 (by decide) ?_
      refine lv_ishr F.1.1 F.1.2.1 dX6_size_16 ?_
      refine top_i hf (fun y_2 hf => ?_)
      refine lv_istore_n (lv' := [(2, .int y_2), (1, .int y_1)]) F.1.1 F.1.2.1 dX6_size_17 rfl hl (by decide) rfl (fun ls hl => ?_)
      refine lv_goto (tgt := 4) F.1.1 F.1.2.1 dX6_size_18 (by decide) ?_
      exact ih4 y_1 y_2 μ H locs ls hP hS (lv_sub hl [1, 0] rfl) hf
set_option maxHeartbeats 4000000 in
set_option maxRecDepth 100000 in
theorem mX6_size (l : Launch) (G : GT) (hG : GD G) (x0 : Int32) (μ : Mem) (r : Int32) (μ' : Mem) (hf : fX6_size x0 μ = some (r, μ')) : Ct l yX6_size wsX6_size rmX6_size G [.int x0] μ (some (.int r)) μ' := by
  refine Ct.of (cc := cX6_size) (maxL := 3) (ret := (some .int)) (own := RX6) hG (by decide) rfl rfl (Nat.le_of_ble_eq_true rfl) ?_
  intro p e s m args below meth c ls H locs F hl hP hS
  have hl : lv_has ls 3 [(0, .int x0)] := hl
  unfold fX6_size at hf
  refine lv_iconst (v := (0 : Int32)) F.1.1 F.1.2.1 dX6_size_0 (by decide) ?_
  refine lv_istore_n (lv' := [(1, .int (0 : Int32)), (0, .int x0)]) F.1.1 F.1.2.1 dX6_size_1 rfl hl (by decide) rfl (fun ls hl => ?_)
  refine lv_iload_n F.1.1 F.1.2.1 dX6_size_2 rfl (lv_at hl 1 rfl) ?_
  refine lv_istore_n (lv' := [(2, .int x0), (1, .int (0 : Int32)), (0, .int x0)]) F.1.1 F.1.2.1 dX6_size_3 rfl hl (by decide) rfl (fun ls hl => ?_)
  exact lX6_size_L4 l G F _ _ FU (0 : Int32) x0 μ H locs ls hP hS (lv_sub hl [1, 0] rfl) hf
abbrev rmX6_digit : Room := { frames := 1, cells := 0, slots := 0, locals := 22 }
theorem hdX6_digit : yX6_digit.cls = RX6 ∧ yX6_digit.cls ≠ "java/lang/invoke/MethodHandle" ∧ yX6_digit.cls ≠ "java/lang/invoke/VarHandle" ∧ (parseMethodDescriptor yX6_digit.desc).map (fun d => d.parameters.length) = some 1 := by decide +kernel
theorem kX6_digit_16 : Cond.fieldLink RX6 16 "PaperLayersModel" "cells" "[I" ∈ wsX6_digit := List.mem_cons_of_mem _ (List.mem_append_left _ (List.mem_of_getElem? (i := 1) rfl))
theorem kX6_digit_59 : Cond.fieldLink RX6 59 "PaperLayersModel" "at" "I" ∈ wsX6_digit := List.mem_cons_of_mem _ (List.mem_append_left _ (List.mem_of_getElem? (i := 0) rfl))
theorem inX6_digit_6 : ∀ w ∈ wsX60, w ∈ wsX6_digit := fun _ h => List.mem_cons_of_mem _ (List.mem_append_right _ (h))
set_option maxHeartbeats 4000000 in
set_option maxRecDepth 100000 in
theorem mX6_digit (l : Launch) (G : GT) (hG : GD G) (x1 : Int32) (μ : Mem) (r : Int32) (μ' : Mem) (hf : fX6_digit x1 μ = some (r, μ')) : Ct l yX6_digit wsX6_digit rmX6_digit G [.ref (ga G 31), .int x1] μ (some (.int r)) μ' := by
  refine Ct.of (cc := cX6_digit) (maxL := 2) (ret := (some .int)) (own := RX6) hG (by decide) rfl rfl (Nat.le_of_ble_eq_true rfl) ?_
  intro p e s m args below meth c ls H locs F hl hP hS
  have hl : lv_has ls 2 [(0, .ref (ga G 31)), (1, .int x1)] := hl
  unfold fX6_digit at hf
  refine lv_aload_n F.1.1 F.1.2.1 dX6_digit_0 rfl (lv_at hl 0 rfl) ?_
  refine gt_6_11 F hP 31 rfl inX6_digit_6 kX6_digit_59 dX6_digit_1 ?_
  refine lv_iload_n F.1.1 F.1.2.1 dX6_digit_4 rfl (lv_at hl 1 rfl) ?_
  refine jc_ge (tgt := 27) F dX6_digit_5 (by decide) hf (fun hf => ?_) (fun hf => ?_)
  · refine lv_bipush (v := (-9 : Int32)) F.1.1 F.1.2.1 dX6_digit_27 (by decide) ?_
    exact retI F hP hS dX6_digit_29 hf
  · refine lv_aload_n F.1.1 F.1.2.1 dX6_digit_8 rfl (lv_at hl 0 rfl) ?_
    refine gt_6_4 F hP 31 rfl inX6_digit_6 kX6_digit_16 dX6_digit_9 ?_
    refine lv_aload_n F.1.1 F.1.2.1 dX6_digit_12 rfl (lv_at hl 0 rfl) ?_
    refine gt_6_11 F hP 31 rfl inX6_digit_6 kX6_digit_59 dX6_digit_13 ?_
    refine r_ial F hP 34 rfl rfl dX6_digit_16 hf (fun hf => ?_)
    refine lv_bipush (v := (48 : Int32)) F.1.1 F.1.2.1 dX6_digit_17 (by decide) ?_
    refine lv_bipush (v := (57 : Int32)) F.1.1 F.1.2.1 dX6_digit_19 (by decide) ?_
    obtain ⟨r_3, μ_1, hc_2, hf⟩ := bnd_some hf
    refine rS1 (R := rmX6_digit) (As := [.int (μ 34 ((μ 31 11)).toNatClampNeg), .int (48 : Int32), .int (57 : Int32)]) (rest := []) F hP hS hl (mX6_within l G F.2.2.2.2 (μ 34 ((μ 31 11)).toNatClampNeg) (48 : Int32) (57 : Int32) _ _ _ hc_2) gX6_digit_X6_within hdX6_within rfl rfl rfl ⟨Nat.le_of_ble_eq_true rfl, Nat.le_of_ble_eq_true rfl⟩ rfl rfl (Nat.le_of_ble_eq_true rfl) ⟨Nat.le_of_ble_eq_true rfl, Nat.le_of_ble_eq_true rfl⟩ dX6_digit_21 (fun H locs hP hS => ?_)
    refine jz_ne (tgt := 30) F dX6_digit_24 (by decide) hf (fun hf => ?_) (fun hf => ?_)
    · refine lv_aload_n F.1.1 F.1.2.1 dX6_digit_30 rfl (lv_at hl 0 rfl) ?_
      refine lv_dup F.1.1 F.1.2.1 dX6_digit_31 rfl ?_
      refine gt_6_11 F hP 31 rfl inX6_digit_6 kX6_digit_59 dX6_digit_32 ?_
      refine lv_iconst (v := (1 : Int32)) F.1.1 F.1.2.1 dX6_digit_35 (by decide) ?_
      refine lv_iadd F.1.1 F.1.2.1 dX6_digit_36 ?_
      refine pt_6_11 F hP hS 31 rfl inX6_digit_6 kX6_digit_59 dX6_digit_37 hf (fun μ_4 H locs hP hS hf => ?_)
      refine lv_aload_n F.1.1 F.1.2.1 dX6_digit_40 rfl (lv_at hl 0 rfl) ?_
      refine gt_6_4 F hP 31 rfl inX6_digit_6 kX6_digit_16 dX6_digit_41 ?_
      refine lv_aload_n F.1.1 F.1.2.1 dX6_digit_44 rfl (lv_at hl 0 rfl) ?_
      refine gt_6_11 F hP 31 rfl inX6_digit_6 kX6_digit_59 dX6_digit_45 ?_
      refine lv_iconst (v := (1 : Int32)) F.1.1 F.1.2.1 dX6_digit_48 (by decide) ?_
      refine lv_isub F.1.1 F.1.2.1 dX6_digit_49 ?_
      refine r_ial F hP 34 rfl rfl dX6_digit_50 hf (fun hf => ?_)
      refine lv_bipush (v := (48 : Int32)) F.1.1 F.1.2.1 dX6_digit_51 (by decide) ?_
      refine lv_isub F.1.1 F.1.2.1 dX6_digit_53 ?_
      exact retI F hP hS dX6_digit_54 hf
    · refine lv_bipush (v := (-9 : Int32)) F.1.1 F.1.2.1 dX6_digit_27 (by decide) ?_
      exact retI F hP hS dX6_digit_29 hf
abbrev rmX6_isSign : Room := { frames := 0, cells := 0, slots := 0, locals := 0 }
theorem hdX6_isSign : yX6_isSign.cls = RX6 ∧ yX6_isSign.cls ≠ "java/lang/invoke/MethodHandle" ∧ yX6_isSign.cls ≠ "java/lang/invoke/VarHandle" ∧ (parseMethodDescriptor yX6_isSign.desc).map (fun d => d.parameters.length) = some 2 := by decide +kernel
theorem kX6_isSign_16 : Cond.fieldLink RX6 16 "PaperLayersModel" "cells" "[I" ∈ wsX6_isSign := List.mem_cons_of_mem _ (List.mem_append_left _ (List.mem_of_getElem? (i := 1) rfl))
theorem kX6_isSign_59 : Cond.fieldLink RX6 59 "PaperLayersModel" "at" "I" ∈ wsX6_isSign := List.mem_cons_of_mem _ (List.mem_append_left _ (List.mem_of_getElem? (i := 0) rfl))
theorem inX6_isSign_6 : ∀ w ∈ wsX60, w ∈ wsX6_isSign := fun _ h => List.mem_cons_of_mem _ (List.mem_append_right _ (h))
set_option maxHeartbeats 4000000 in
set_option maxRecDepth 100000 in
theorem mX6_isSign (l : Launch) (G : GT) (hG : GD G) (x1 : Int32) (x2 : Int32) (μ : Mem) (r : Int32) (μ' : Mem) (hf : fX6_isSign x1 x2 μ = some (r, μ')) : Ct l yX6_isSign wsX6_isSign rmX6_isSign G [.ref (ga G 31), .int x1, .int x2] μ (some (.int r)) μ' := by
  refine Ct.of (cc := cX6_isSign) (maxL := 3) (ret := (some .boolean)) (own := RX6) hG (by decide) rfl rfl (Nat.le_of_ble_eq_true rfl) ?_
  intro p e s m args below meth c ls H locs F hl hP hS
  have hl : lv_has ls 3 [(0, .ref (ga G 31)), (1, .int x1), (2, .int x2)] := hl
  unfold fX6_isSign at hf
  refine lv_aload_n F.1.1 F.1.2.1 dX6_isSign_0 rfl (lv_at hl 0 rfl) ?_
  refine gt_6_11 F hP 31 rfl inX6_isSign_6 kX6_isSign_59 dX6_isSign_1 ?_
  refine lv_iload_n F.1.1 F.1.2.1 dX6_isSign_4 rfl (lv_at hl 1 rfl) ?_
  refine jc_ge (tgt := 21) F dX6_isSign_5 (by decide) hf (fun hf => ?_) (fun hf => ?_)
  · refine lv_iconst (v := (0 : Int32)) F.1.1 F.1.2.1 dX6_isSign_21 (by decide) ?_
    exact retC F hP hS dX6_isSign_22 (by decide) hf
  · refine lv_aload_n F.1.1 F.1.2.1 dX6_isSign_8 rfl (lv_at hl 0 rfl) ?_
    refine gt_6_4 F hP 31 rfl inX6_isSign_6 kX6_isSign_16 dX6_isSign_9 ?_
    refine lv_aload_n F.1.1 F.1.2.1 dX6_isSign_12 rfl (lv_at hl 0 rfl) ?_
    refine gt_6_11 F hP 31 rfl inX6_isSign_6 kX6_isSign_59 dX6_isSign_13 ?_
    refine r_ial F hP 34 rfl rfl dX6_isSign_16 hf (fun hf => ?_)
    refine lv_iload_n F.1.1 F.1.2.1 dX6_isSign_17 rfl (lv_at hl 2 rfl) ?_
    refine jc_eq (tgt := 23) F dX6_isSign_18 (by decide) hf (fun hf => ?_) (fun hf => ?_)
    · refine lv_aload_n F.1.1 F.1.2.1 dX6_isSign_23 rfl (lv_at hl 0 rfl) ?_
      refine lv_dup F.1.1 F.1.2.1 dX6_isSign_24 rfl ?_
      refine gt_6_11 F hP 31 rfl inX6_isSign_6 kX6_isSign_59 dX6_isSign_25 ?_
      refine lv_iconst (v := (1 : Int32)) F.1.1 F.1.2.1 dX6_isSign_28 (by decide) ?_
      refine lv_iadd F.1.1 F.1.2.1 dX6_isSign_29 ?_
      refine pt_6_11 F hP hS 31 rfl inX6_isSign_6 kX6_isSign_59 dX6_isSign_30 hf (fun μ_1 H locs hP hS hf => ?_)
      refine lv_iconst (v := (1 : Int32)) F.1.1 F.1.2.1 dX6_isSign_33 (by decide) ?_
      exact retC F hP hS dX6_isSign_34 (by decide) hf
    · refine lv_iconst (v := (0 : Int32)) F.1.1 F.1.2.1 dX6_isSign_21 (by decide) ?_
      exact retC F hP hS dX6_isSign_22 (by decide) hf
abbrev rmX6_readLayer : Room := { frames := 2, cells := 0, slots := 0, locals := 43 }
theorem hdX6_readLayer : yX6_readLayer.cls = RX6 ∧ yX6_readLayer.cls ≠ "java/lang/invoke/MethodHandle" ∧ yX6_readLayer.cls ≠ "java/lang/invoke/VarHandle" ∧ (parseMethodDescriptor yX6_readLayer.desc).map (fun d => d.parameters.length) = some 1 := by decide +kernel
theorem kX6_readLayer_16 : Cond.fieldLink RX6 16 "PaperLayersModel" "cells" "[I" ∈ wsX6_readLayer := List.mem_cons_of_mem _ (List.mem_append_left _ (List.mem_of_getElem? (i := 1) rfl))
theorem kX6_readLayer_28 : Cond.fieldLink RX6 28 "PaperLayersModel" "read" "[I" ∈ wsX6_readLayer := List.mem_cons_of_mem _ (List.mem_append_left _ (List.mem_of_getElem? (i := 3) rfl))
theorem kX6_readLayer_59 : Cond.fieldLink RX6 59 "PaperLayersModel" "at" "I" ∈ wsX6_readLayer := List.mem_cons_of_mem _ (List.mem_append_left _ (List.mem_of_getElem? (i := 0) rfl))
theorem kX6_readLayer_95 : Cond.fieldLink RX6 95 "PaperLayersModel" "readLayers" "I" ∈ wsX6_readLayer := List.mem_cons_of_mem _ (List.mem_append_left _ (List.mem_of_getElem? (i := 2) rfl))
theorem inX6_readLayer_6 : ∀ w ∈ wsX60, w ∈ wsX6_readLayer := fun _ h => List.mem_cons_of_mem _ (List.mem_append_right _ (h))
set_option maxHeartbeats 4000000 in
set_option maxRecDepth 100000 in
theorem mX6_readLayer (l : Launch) (G : GT) (hG : GD G) (x1 : Int32) (μ : Mem) (r : Int32) (μ' : Mem) (hf : fX6_readLayer x1 μ = some (r, μ')) : Ct l yX6_readLayer wsX6_readLayer rmX6_readLayer G [.ref (ga G 31), .int x1] μ (some (.int r)) μ' := by
  refine Ct.of (cc := cX6_readLayer) (maxL := 4) (ret := (some .boolean)) (own := RX6) hG (by decide) rfl rfl (Nat.le_of_ble_eq_true rfl) ?_
  intro p e s m args below meth c ls H locs F hl hP hS
  have hl : lv_has ls 4 [(0, .ref (ga G 31)), (1, .int x1)] := hl
  unfold fX6_readLayer at hf
  refine lv_aload_n F.1.1 F.1.2.1 dX6_readLayer_0 rfl (lv_at hl 0 rfl) ?_
  refine gt_6_11 F hP 31 rfl inX6_readLayer_6 kX6_readLayer_59 dX6_readLayer_1 ?_
  refine lv_iload_n F.1.1 F.1.2.1 dX6_readLayer_4 rfl (lv_at hl 1 rfl) ?_
  refine jc_ge (tgt := 20) F dX6_readLayer_5 (by decide) hf (fun hf => ?_) (fun hf => ?_)
  · refine lv_iconst (v := (0 : Int32)) F.1.1 F.1.2.1 dX6_readLayer_20 (by decide) ?_
    refine lv_istore_n (lv' := [(2, .int (0 : Int32)), (0, .ref (ga G 31)), (1, .int x1)]) F.1.1 F.1.2.1 dX6_readLayer_21 rfl hl (by decide) rfl (fun ls hl => ?_)
    refine lv_iconst (v := (3 : Int32)) F.1.1 F.1.2.1 dX6_readLayer_22 (by decide) ?_
    refine lv_aload_n F.1.1 F.1.2.1 dX6_readLayer_23 rfl (lv_at hl 1 rfl) ?_
    refine gt_6_14 F hP 31 rfl inX6_readLayer_6 kX6_readLayer_95 dX6_readLayer_24 ?_
    refine lv_imul F.1.1 F.1.2.1 dX6_readLayer_27 ?_
    refine top_i hf (fun y_1 hf => ?_)
    refine lv_istore_n (lv' := [(3, .int y_1), (2, .int (0 : Int32)), (0, .ref (ga G 31)), (1, .int x1)]) F.1.1 F.1.2.1 dX6_readLayer_28 rfl hl (by decide) rfl (fun ls hl => ?_)
    refine lv_aload_n F.1.1 F.1.2.1 dX6_readLayer_29 rfl (lv_at hl 2 rfl) ?_
    refine gt_6_15 F hP 31 rfl inX6_readLayer_6 kX6_readLayer_28 dX6_readLayer_30 ?_
    refine lv_iload_n F.1.1 F.1.2.1 dX6_readLayer_33 rfl (lv_at hl 0 rfl) ?_
    refine lv_iload_n F.1.1 F.1.2.1 dX6_readLayer_34 rfl (lv_at hl 1 rfl) ?_
    refine lv_bipush (v := (115 : Int32)) F.1.1 F.1.2.1 dX6_readLayer_35 (by decide) ?_
    refine lv_icmp_ne (tgt := 44) F.1.1 F.1.2.1 dX6_readLayer_37 (by decide) (fun _ => ?_) (fun h => absurd h (by decide))
    refine lv_iload_n F.1.1 F.1.2.1 dX6_readLayer_44 rfl (lv_at hl 1 rfl) ?_
    refine lv_bipush (v := (116 : Int32)) F.1.1 F.1.2.1 dX6_readLayer_45 (by decide) ?_
    refine lv_icmp_ne (tgt := 54) F.1.1 F.1.2.1 dX6_readLayer_47 (by decide) (fun _ => ?_) (fun h => absurd h (by decide))
    refine lv_iload_n F.1.1 F.1.2.1 dX6_readLayer_54 rfl (lv_at hl 1 rfl) ?_
    refine lv_bipush (v := (114 : Int32)) F.1.1 F.1.2.1 dX6_readLayer_55 (by decide) ?_
    refine lv_icmp_ne (tgt := 64) F.1.1 F.1.2.1 dX6_readLayer_57 (by decide) (fun _ => ?_) (fun h => absurd h (by decide))
    refine lv_bipush (v := (-9 : Int32)) F.1.1 F.1.2.1 dX6_readLayer_64 (by decide) ?_
    refine r_ias F hP hS 38 rfl rfl dX6_readLayer_66 hf (fun μ_2 H locs hP hS hf => ?_)
    refine lv_aload_n F.1.1 F.1.2.1 dX6_readLayer_67 rfl (lv_at hl 2 rfl) ?_
    refine gt_6_15 F hP 31 rfl inX6_readLayer_6 kX6_readLayer_28 dX6_readLayer_68 ?_
    refine lv_iload_n F.1.1 F.1.2.1 dX6_readLayer_71 rfl (lv_at hl 0 rfl) ?_
    refine r_ial F hP 38 rfl rfl dX6_readLayer_72 hf (fun hf => ?_)
    refine lv_bipush (v := (-9 : Int32)) F.1.1 F.1.2.1 dX6_readLayer_73 (by decide) ?_
    refine jc_ne (tgt := 80) F dX6_readLayer_75 (by decide) hf (fun hf => ?_) (fun hf => ?_)
    · refine lv_aload_n F.1.1 F.1.2.1 dX6_readLayer_80 rfl (lv_at hl 2 rfl) ?_
      refine lv_dup F.1.1 F.1.2.1 dX6_readLayer_81 rfl ?_
      refine gt_6_11 F hP 31 rfl inX6_readLayer_6 kX6_readLayer_59 dX6_readLayer_82 ?_
      refine lv_iconst (v := (1 : Int32)) F.1.1 F.1.2.1 dX6_readLayer_85 (by decide) ?_
      refine lv_iadd F.1.1 F.1.2.1 dX6_readLayer_86 ?_
      refine pt_6_11 F hP hS 31 rfl inX6_readLayer_6 kX6_readLayer_59 dX6_readLayer_87 hf (fun μ_3 H locs hP hS hf => ?_)
      refine lv_aload_n F.1.1 F.1.2.1 dX6_readLayer_90 rfl (lv_at hl 2 rfl) ?_
      refine gt_6_15 F hP 31 rfl inX6_readLayer_6 kX6_readLayer_28 dX6_readLayer_91 ?_
      refine lv_iload_n F.1.1 F.1.2.1 dX6_readLayer_94 rfl (lv_at hl 0 rfl) ?_
      refine lv_iconst (v := (1 : Int32)) F.1.1 F.1.2.1 dX6_readLayer_95 (by decide) ?_
      refine lv_iadd F.1.1 F.1.2.1 dX6_readLayer_96 ?_
      refine lv_aload_n F.1.1 F.1.2.1 dX6_readLayer_97 rfl (lv_at hl 2 rfl) ?_
      refine lv_iload_n F.1.1 F.1.2.1 dX6_readLayer_98 rfl (lv_at hl 3 rfl) ?_
      obtain ⟨r_6, μ_4, hc_5, hf⟩ := bnd_some hf
      refine rV1 (R := rmX6_readLayer) (As := [.int x1]) (rest := [.int (y_1 + (1 : Int32)), .ref (ga G 38)]) F hP hS hl (mX6_digit l G F.2.2.2.2 x1 _ _ _ hc_5) gX6_readLayer_X6_digit rfl hdX6_digit rfl rfl rfl ⟨Nat.le_of_ble_eq_true rfl, Nat.le_of_ble_eq_true rfl⟩ (by decide) rfl rfl rfl (Nat.le_of_ble_eq_true rfl) ⟨Nat.le_of_ble_eq_true rfl, Nat.le_of_ble_eq_true rfl⟩ dX6_readLayer_99 (fun H locs hP hS => ?_)
      refine r_ias F hP hS 38 rfl rfl dX6_readLayer_102 hf (fun μ_7 H locs hP hS hf => ?_)
      refine lv_aload_n F.1.1 F.1.2.1 dX6_readLayer_103 rfl (lv_at hl 2 rfl) ?_
      refine gt_6_15 F hP 31 rfl inX6_readLayer_6 kX6_readLayer_28 dX6_readLayer_104 ?_
      refine lv_iload_n F.1.1 F.1.2.1 dX6_readLayer_107 rfl (lv_at hl 0 rfl) ?_
      refine lv_iconst (v := (1 : Int32)) F.1.1 F.1.2.1 dX6_readLayer_108 (by decide) ?_
      refine lv_iadd F.1.1 F.1.2.1 dX6_readLayer_109 ?_
      refine r_ial F hP 38 rfl rfl dX6_readLayer_110 hf (fun hf => ?_)
      refine lv_bipush (v := (-9 : Int32)) F.1.1 F.1.2.1 dX6_readLayer_111 (by decide) ?_
      refine jc_ne (tgt := 118) F dX6_readLayer_113 (by decide) hf (fun hf => ?_) (fun hf => ?_)
      · refine lv_aload_n F.1.1 F.1.2.1 dX6_readLayer_118 rfl (lv_at hl 2 rfl) ?_
        refine gt_6_15 F hP 31 rfl inX6_readLayer_6 kX6_readLayer_28 dX6_readLayer_119 ?_
        refine lv_iload_n F.1.1 F.1.2.1 dX6_readLayer_122 rfl (lv_at hl 0 rfl) ?_
        refine lv_iconst (v := (2 : Int32)) F.1.1 F.1.2.1 dX6_readLayer_123 (by decide) ?_
        refine lv_iadd F.1.1 F.1.2.1 dX6_readLayer_124 ?_
        refine lv_aload_n F.1.1 F.1.2.1 dX6_readLayer_125 rfl (lv_at hl 2 rfl) ?_
        refine lv_iload_n F.1.1 F.1.2.1 dX6_readLayer_126 rfl (lv_at hl 3 rfl) ?_
        obtain ⟨r_10, μ_8, hc_9, hf⟩ := bnd_some hf
        refine rV1 (R := rmX6_readLayer) (As := [.int x1]) (rest := [.int (y_1 + (2 : Int32)), .ref (ga G 38)]) F hP hS hl (mX6_digit l G F.2.2.2.2 x1 _ _ _ hc_9) gX6_readLayer_X6_digit rfl hdX6_digit rfl rfl rfl ⟨Nat.le_of_ble_eq_true rfl, Nat.le_of_ble_eq_true rfl⟩ (by decide) rfl rfl rfl (Nat.le_of_ble_eq_true rfl) ⟨Nat.le_of_ble_eq_true rfl, Nat.le_of_ble_eq_true rfl⟩ dX6_readLayer_127 (fun H locs hP hS => ?_)
        refine r_ias F hP hS 38 rfl rfl dX6_readLayer_130 hf (fun μ_11 H locs hP hS hf => ?_)
        refine lv_aload_n F.1.1 F.1.2.1 dX6_readLayer_131 rfl (lv_at hl 2 rfl) ?_
        refine lv_dup F.1.1 F.1.2.1 dX6_readLayer_132 rfl ?_
        refine gt_6_14 F hP 31 rfl inX6_readLayer_6 kX6_readLayer_95 dX6_readLayer_133 ?_
        refine lv_iconst (v := (1 : Int32)) F.1.1 F.1.2.1 dX6_readLayer_136 (by decide) ?_
        refine lv_iadd F.1.1 F.1.2.1 dX6_readLayer_137 ?_
        refine pt_6_14 F hP hS 31 rfl inX6_readLayer_6 kX6_readLayer_95 dX6_readLayer_138 hf (fun μ_12 H locs hP hS hf => ?_)
        refine lv_aload_n F.1.1 F.1.2.1 dX6_readLayer_141 rfl (lv_at hl 2 rfl) ?_
        refine gt_6_15 F hP 31 rfl inX6_readLayer_6 kX6_readLayer_28 dX6_readLayer_142 ?_
        refine lv_iload_n F.1.1 F.1.2.1 dX6_readLayer_145 rfl (lv_at hl 0 rfl) ?_
        refine lv_iconst (v := (2 : Int32)) F.1.1 F.1.2.1 dX6_readLayer_146 (by decide) ?_
        refine lv_iadd F.1.1 F.1.2.1 dX6_readLayer_147 ?_
        refine r_ial F hP 38 rfl rfl dX6_readLayer_148 hf (fun hf => ?_)
        refine lv_bipush (v := (-9 : Int32)) F.1.1 F.1.2.1 dX6_readLayer_149 (by decide) ?_
        refine jc_eq (tgt := 158) F dX6_readLayer_151 (by decide) hf (fun hf => ?_) (fun hf => ?_)
        · refine lv_iconst (v := (0 : Int32)) F.1.1 F.1.2.1 dX6_readLayer_158 (by decide) ?_
          exact retC F hP hS dX6_readLayer_159 (by decide) hf
        · refine lv_iconst (v := (1 : Int32)) F.1.1 F.1.2.1 dX6_readLayer_154 (by decide) ?_
          refine lv_goto (tgt := 159) F.1.1 F.1.2.1 dX6_readLayer_155 (by decide) ?_
          exact retC F hP hS dX6_readLayer_159 (by decide) hf
      · refine lv_iconst (v := (0 : Int32)) F.1.1 F.1.2.1 dX6_readLayer_116 (by decide) ?_
        exact retC F hP hS dX6_readLayer_117 (by decide) hf
    · refine lv_iconst (v := (0 : Int32)) F.1.1 F.1.2.1 dX6_readLayer_78 (by decide) ?_
      exact retC F hP hS dX6_readLayer_79 (by decide) hf
  · refine lv_aload_n F.1.1 F.1.2.1 dX6_readLayer_8 rfl (lv_at hl 0 rfl) ?_
    refine gt_6_4 F hP 31 rfl inX6_readLayer_6 kX6_readLayer_16 dX6_readLayer_9 ?_
    refine lv_aload_n F.1.1 F.1.2.1 dX6_readLayer_12 rfl (lv_at hl 0 rfl) ?_
    refine gt_6_11 F hP 31 rfl inX6_readLayer_6 kX6_readLayer_59 dX6_readLayer_13 ?_
    refine r_ial F hP 34 rfl rfl dX6_readLayer_16 hf (fun hf => ?_)
    refine lv_goto (tgt := 21) F.1.1 F.1.2.1 dX6_readLayer_17 (by decide) ?_
    refine top_i hf (fun y_13 hf => ?_)
    refine lv_istore_n (lv' := [(2, .int y_13), (0, .ref (ga G 31)), (1, .int x1)]) F.1.1 F.1.2.1 dX6_readLayer_21 rfl hl (by decide) rfl (fun ls hl => ?_)
    refine lv_iconst (v := (3 : Int32)) F.1.1 F.1.2.1 dX6_readLayer_22 (by decide) ?_
    refine lv_aload_n F.1.1 F.1.2.1 dX6_readLayer_23 rfl (lv_at hl 1 rfl) ?_
    refine gt_6_14 F hP 31 rfl inX6_readLayer_6 kX6_readLayer_95 dX6_readLayer_24 ?_
    refine lv_imul F.1.1 F.1.2.1 dX6_readLayer_27 ?_
    refine top_i hf (fun y_14 hf => ?_)
    refine lv_istore_n (lv' := [(3, .int y_14), (2, .int y_13), (0, .ref (ga G 31)), (1, .int x1)]) F.1.1 F.1.2.1 dX6_readLayer_28 rfl hl (by decide) rfl (fun ls hl => ?_)
    refine lv_aload_n F.1.1 F.1.2.1 dX6_readLayer_29 rfl (lv_at hl 2 rfl) ?_
    refine gt_6_15 F hP 31 rfl inX6_readLayer_6 kX6_readLayer_28 dX6_readLayer_30 ?_
    refine lv_iload_n F.1.1 F.1.2.1 dX6_readLayer_33 rfl (lv_at hl 0 rfl) ?_
    refine lv_iload_n F.1.1 F.1.2.1 dX6_readLayer_34 rfl (lv_at hl 1 rfl) ?_
    refine lv_bipush (v := (115 : Int32)) F.1.1 F.1.2.1 dX6_readLayer_35 (by decide) ?_
    refine jc_ne (tgt := 44) F dX6_readLayer_37 (by decide) hf (fun hf => ?_) (fun hf => ?_)
    · refine lv_iload_n F.1.1 F.1.2.1 dX6_readLayer_44 rfl (lv_at hl 1 rfl) ?_
      refine lv_bipush (v := (116 : Int32)) F.1.1 F.1.2.1 dX6_readLayer_45 (by decide) ?_
      refine jc_ne (tgt := 54) F dX6_readLayer_47 (by decide) hf (fun hf => ?_) (fun hf => ?_)
      · refine lv_iload_n F.1.1 F.1.2.1 dX6_readLayer_54 rfl (lv_at hl 1 rfl) ?_
        refine lv_bipush (v := (114 : Int32)) F.1.1 F.1.2.1 dX6_readLayer_55 (by decide) ?_
        refine jc_ne (tgt := 64) F dX6_readLayer_57 (by decide) hf (fun hf => ?_) (fun hf => ?_)
        · refine lv_bipush (v := (-9 : Int32)) F.1.1 F.1.2.1 dX6_readLayer_64 (by decide) ?_
          refine r_ias F hP hS 38 rfl rfl dX6_readLayer_66 hf (fun μ_15 H locs hP hS hf => ?_)
          refine lv_aload_n F.1.1 F.1.2.1 dX6_readLayer_67 rfl (lv_at hl 2 rfl) ?_
          refine gt_6_15 F hP 31 rfl inX6_readLayer_6 kX6_readLayer_28 dX6_readLayer_68 ?_
          refine lv_iload_n F.1.1 F.1.2.1 dX6_readLayer_71 rfl (lv_at hl 0 rfl) ?_
          refine r_ial F hP 38 rfl rfl dX6_readLayer_72 hf (fun hf => ?_)
          refine lv_bipush (v := (-9 : Int32)) F.1.1 F.1.2.1 dX6_readLayer_73 (by decide) ?_
          refine jc_ne (tgt := 80) F dX6_readLayer_75 (by decide) hf (fun hf => ?_) (fun hf => ?_)
          · refine lv_aload_n F.1.1 F.1.2.1 dX6_readLayer_80 rfl (lv_at hl 2 rfl) ?_
            refine lv_dup F.1.1 F.1.2.1 dX6_readLayer_81 rfl ?_
            refine gt_6_11 F hP 31 rfl inX6_readLayer_6 kX6_readLayer_59 dX6_readLayer_82 ?_
            refine lv_iconst (v := (1 : Int32)) F.1.1 F.1.2.1 dX6_readLayer_85 (by decide) ?_
            refine lv_iadd F.1.1 F.1.2.1 dX6_readLayer_86 ?_
            refine pt_6_11 F hP hS 31 rfl inX6_readLayer_6 kX6_readLayer_59 dX6_readLayer_87 hf (fun μ_16 H locs hP hS hf => ?_)
            refine lv_aload_n F.1.1 F.1.2.1 dX6_readLayer_90 rfl (lv_at hl 2 rfl) ?_
            refine gt_6_15 F hP 31 rfl inX6_readLayer_6 kX6_readLayer_28 dX6_readLayer_91 ?_
            refine lv_iload_n F.1.1 F.1.2.1 dX6_readLayer_94 rfl (lv_at hl 0 rfl) ?_
            refine lv_iconst (v := (1 : Int32)) F.1.1 F.1.2.1 dX6_readLayer_95 (by decide) ?_
            refine lv_iadd F.1.1 F.1.2.1 dX6_readLayer_96 ?_
            refine lv_aload_n F.1.1 F.1.2.1 dX6_readLayer_97 rfl (lv_at hl 2 rfl) ?_
            refine lv_iload_n F.1.1 F.1.2.1 dX6_readLayer_98 rfl (lv_at hl 3 rfl) ?_
            obtain ⟨r_19, μ_17, hc_18, hf⟩ := bnd_some hf
            refine rV1 (R := rmX6_readLayer) (As := [.int x1]) (rest := [.int (y_14 + (1 : Int32)), .ref (ga G 38)]) F hP hS hl (mX6_digit l G F.2.2.2.2 x1 _ _ _ hc_18) gX6_readLayer_X6_digit rfl hdX6_digit rfl rfl rfl ⟨Nat.le_of_ble_eq_true rfl, Nat.le_of_ble_eq_true rfl⟩ (by decide) rfl rfl rfl (Nat.le_of_ble_eq_true rfl) ⟨Nat.le_of_ble_eq_true rfl, Nat.le_of_ble_eq_true rfl⟩ dX6_readLayer_99 (fun H locs hP hS => ?_)
            refine r_ias F hP hS 38 rfl rfl dX6_readLayer_102 hf (fun μ_20 H locs hP hS hf => ?_)
            refine lv_aload_n F.1.1 F.1.2.1 dX6_readLayer_103 rfl (lv_at hl 2 rfl) ?_
            refine gt_6_15 F hP 31 rfl inX6_readLayer_6 kX6_readLayer_28 dX6_readLayer_104 ?_
            refine lv_iload_n F.1.1 F.1.2.1 dX6_readLayer_107 rfl (lv_at hl 0 rfl) ?_
            refine lv_iconst (v := (1 : Int32)) F.1.1 F.1.2.1 dX6_readLayer_108 (by decide) ?_
            refine lv_iadd F.1.1 F.1.2.1 dX6_readLayer_109 ?_
            refine r_ial F hP 38 rfl rfl dX6_readLayer_110 hf (fun hf => ?_)
            refine lv_bipush (v := (-9 : Int32)) F.1.1 F.1.2.1 dX6_readLayer_111 (by decide) ?_
            refine jc_ne (tgt := 118) F dX6_readLayer_113 (by decide) hf (fun hf => ?_) (fun hf => ?_)
            · refine lv_aload_n F.1.1 F.1.2.1 dX6_readLayer_118 rfl (lv_at hl 2 rfl) ?_
              refine gt_6_15 F hP 31 rfl inX6_readLayer_6 kX6_readLayer_28 dX6_readLayer_119 ?_
              refine lv_iload_n F.1.1 F.1.2.1 dX6_readLayer_122 rfl (lv_at hl 0 rfl) ?_
              refine lv_iconst (v := (2 : Int32)) F.1.1 F.1.2.1 dX6_readLayer_123 (by decide) ?_
              refine lv_iadd F.1.1 F.1.2.1 dX6_readLayer_124 ?_
              refine lv_aload_n F.1.1 F.1.2.1 dX6_readLayer_125 rfl (lv_at hl 2 rfl) ?_
              refine lv_iload_n F.1.1 F.1.2.1 dX6_readLayer_126 rfl (lv_at hl 3 rfl) ?_
              obtain ⟨r_23, μ_21, hc_22, hf⟩ := bnd_some hf
              refine rV1 (R := rmX6_readLayer) (As := [.int x1]) (rest := [.int (y_14 + (2 : Int32)), .ref (ga G 38)]) F hP hS hl (mX6_digit l G F.2.2.2.2 x1 _ _ _ hc_22) gX6_readLayer_X6_digit rfl hdX6_digit rfl rfl rfl ⟨Nat.le_of_ble_eq_true rfl, Nat.le_of_ble_eq_true rfl⟩ (by decide) rfl rfl rfl (Nat.le_of_ble_eq_true rfl) ⟨Nat.le_of_ble_eq_true rfl, Nat.le_of_ble_eq_true rfl⟩ dX6_readLayer_127 (fun H locs hP hS => ?_)
              refine r_ias F hP hS 38 rfl rfl dX6_readLayer_130 hf (fun μ_24 H locs hP hS hf => ?_)
              refine lv_aload_n F.1.1 F.1.2.1 dX6_readLayer_131 rfl (lv_at hl 2 rfl) ?_
              refine lv_dup F.1.1 F.1.2.1 dX6_readLayer_132 rfl ?_
              refine gt_6_14 F hP 31 rfl inX6_readLayer_6 kX6_readLayer_95 dX6_readLayer_133 ?_
              refine lv_iconst (v := (1 : Int32)) F.1.1 F.1.2.1 dX6_readLayer_136 (by decide) ?_
              refine lv_iadd F.1.1 F.1.2.1 dX6_readLayer_137 ?_
              refine pt_6_14 F hP hS 31 rfl inX6_readLayer_6 kX6_readLayer_95 dX6_readLayer_138 hf (fun μ_25 H locs hP hS hf => ?_)
              refine lv_aload_n F.1.1 F.1.2.1 dX6_readLayer_141 rfl (lv_at hl 2 rfl) ?_
              refine gt_6_15 F hP 31 rfl inX6_readLayer_6 kX6_readLayer_28 dX6_readLayer_142 ?_
              refine lv_iload_n F.1.1 F.1.2.1 dX6_readLayer_145 rfl (lv_at hl 0 rfl) ?_
              refine lv_iconst (v := (2 : Int32)) F.1.1 F.1.2.1 dX6_readLayer_146 (by decide) ?_
              refine lv_iadd F.1.1 F.1.2.1 dX6_readLayer_147 ?_
              refine r_ial F hP 38 rfl rfl dX6_readLayer_148 hf (fun hf => ?_)
              refine lv_bipush (v := (-9 : Int32)) F.1.1 F.1.2.1 dX6_readLayer_149 (by decide) ?_
              refine jc_eq (tgt := 158) F dX6_readLayer_151 (by decide) hf (fun hf => ?_) (fun hf => ?_)
              · refine lv_iconst (v := (0 : Int32)) F.1.1 F.1.2.1 dX6_readLayer_158 (by decide) ?_
                exact retC F hP hS dX6_readLayer_159 (by decide) hf
              · refine lv_iconst (v := (1 : Int32)) F.1.1 F.1.2.1 dX6_readLayer_154 (by decide) ?_
                refine lv_goto (tgt := 159) F.1.1 F.1.2.1 dX6_readLayer_155 (by decide) ?_
                exact retC F hP hS dX6_readLayer_159 (by decide) hf
            · refine lv_iconst (v := (0 : Int32)) F.1.1 F.1.2.1 dX6_readLayer_116 (by decide) ?_
              exact retC F hP hS dX6_readLayer_117 (by decide) hf
          · refine lv_iconst (v := (0 : Int32)) F.1.1 F.1.2.1 dX6_readLayer_78 (by decide) ?_
            exact retC F hP hS dX6_readLayer_79 (by decide) hf
        · refine lv_iconst (v := (2 : Int32)) F.1.1 F.1.2.1 dX6_readLayer_60 (by decide) ?_
          refine lv_goto (tgt := 66) F.1.1 F.1.2.1 dX6_readLayer_61 (by decide) ?_
          refine r_ias F hP hS 38 rfl rfl dX6_readLayer_66 hf (fun μ_26 H locs hP hS hf => ?_)
          refine lv_aload_n F.1.1 F.1.2.1 dX6_readLayer_67 rfl (lv_at hl 2 rfl) ?_
          refine gt_6_15 F hP 31 rfl inX6_readLayer_6 kX6_readLayer_28 dX6_readLayer_68 ?_
          refine lv_iload_n F.1.1 F.1.2.1 dX6_readLayer_71 rfl (lv_at hl 0 rfl) ?_
          refine r_ial F hP 38 rfl rfl dX6_readLayer_72 hf (fun hf => ?_)
          refine lv_bipush (v := (-9 : Int32)) F.1.1 F.1.2.1 dX6_readLayer_73 (by decide) ?_
          refine jc_ne (tgt := 80) F dX6_readLayer_75 (by decide) hf (fun hf => ?_) (fun hf => ?_)
          · refine lv_aload_n F.1.1 F.1.2.1 dX6_readLayer_80 rfl (lv_at hl 2 rfl) ?_
            refine lv_dup F.1.1 F.1.2.1 dX6_readLayer_81 rfl ?_
            refine gt_6_11 F hP 31 rfl inX6_readLayer_6 kX6_readLayer_59 dX6_readLayer_82 ?_
            refine lv_iconst (v := (1 : Int32)) F.1.1 F.1.2.1 dX6_readLayer_85 (by decide) ?_
            refine lv_iadd F.1.1 F.1.2.1 dX6_readLayer_86 ?_
            refine pt_6_11 F hP hS 31 rfl inX6_readLayer_6 kX6_readLayer_59 dX6_readLayer_87 hf (fun μ_27 H locs hP hS hf => ?_)
            refine lv_aload_n F.1.1 F.1.2.1 dX6_readLayer_90 rfl (lv_at hl 2 rfl) ?_
            refine gt_6_15 F hP 31 rfl inX6_readLayer_6 kX6_readLayer_28 dX6_readLayer_91 ?_
            refine lv_iload_n F.1.1 F.1.2.1 dX6_readLayer_94 rfl (lv_at hl 0 rfl) ?_
            refine lv_iconst (v := (1 : Int32)) F.1.1 F.1.2.1 dX6_readLayer_95 (by decide) ?_
            refine lv_iadd F.1.1 F.1.2.1 dX6_readLayer_96 ?_
            refine lv_aload_n F.1.1 F.1.2.1 dX6_readLayer_97 rfl (lv_at hl 2 rfl) ?_
            refine lv_iload_n F.1.1 F.1.2.1 dX6_readLayer_98 rfl (lv_at hl 3 rfl) ?_
            obtain ⟨r_30, μ_28, hc_29, hf⟩ := bnd_some hf
            refine rV1 (R := rmX6_readLayer) (As := [.int x1]) (rest := [.int (y_14 + (1 : Int32)), .ref (ga G 38)]) F hP hS hl (mX6_digit l G F.2.2.2.2 x1 _ _ _ hc_29) gX6_readLayer_X6_digit rfl hdX6_digit rfl rfl rfl ⟨Nat.le_of_ble_eq_true rfl, Nat.le_of_ble_eq_true rfl⟩ (by decide) rfl rfl rfl (Nat.le_of_ble_eq_true rfl) ⟨Nat.le_of_ble_eq_true rfl, Nat.le_of_ble_eq_true rfl⟩ dX6_readLayer_99 (fun H locs hP hS => ?_)
            refine r_ias F hP hS 38 rfl rfl dX6_readLayer_102 hf (fun μ_31 H locs hP hS hf => ?_)
            refine lv_aload_n F.1.1 F.1.2.1 dX6_readLayer_103 rfl (lv_at hl 2 rfl) ?_
            refine gt_6_15 F hP 31 rfl inX6_readLayer_6 kX6_readLayer_28 dX6_readLayer_104 ?_
            refine lv_iload_n F.1.1 F.1.2.1 dX6_readLayer_107 rfl (lv_at hl 0 rfl) ?_
            refine lv_iconst (v := (1 : Int32)) F.1.1 F.1.2.1 dX6_readLayer_108 (by decide) ?_
            refine lv_iadd F.1.1 F.1.2.1 dX6_readLayer_109 ?_
            refine r_ial F hP 38 rfl rfl dX6_readLayer_110 hf (fun hf => ?_)
            refine lv_bipush (v := (-9 : Int32)) F.1.1 F.1.2.1 dX6_readLayer_111 (by decide) ?_
            refine jc_ne (tgt := 118) F dX6_readLayer_113 (by decide) hf (fun hf => ?_) (fun hf => ?_)
            · refine lv_aload_n F.1.1 F.1.2.1 dX6_readLayer_118 rfl (lv_at hl 2 rfl) ?_
              refine gt_6_15 F hP 31 rfl inX6_readLayer_6 kX6_readLayer_28 dX6_readLayer_119 ?_
              refine lv_iload_n F.1.1 F.1.2.1 dX6_readLayer_122 rfl (lv_at hl 0 rfl) ?_
              refine lv_iconst (v := (2 : Int32)) F.1.1 F.1.2.1 dX6_readLayer_123 (by decide) ?_
              refine lv_iadd F.1.1 F.1.2.1 dX6_readLayer_124 ?_
              refine lv_aload_n F.1.1 F.1.2.1 dX6_readLayer_125 rfl (lv_at hl 2 rfl) ?_
              refine lv_iload_n F.1.1 F.1.2.1 dX6_readLayer_126 rfl (lv_at hl 3 rfl) ?_
              obtain ⟨r_34, μ_32, hc_33, hf⟩ := bnd_some hf
              refine rV1 (R := rmX6_readLayer) (As := [.int x1]) (rest := [.int (y_14 + (2 : Int32)), .ref (ga G 38)]) F hP hS hl (mX6_digit l G F.2.2.2.2 x1 _ _ _ hc_33) gX6_readLayer_X6_digit rfl hdX6_digit rfl rfl rfl ⟨Nat.le_of_ble_eq_true rfl, Nat.le_of_ble_eq_true rfl⟩ (by decide) rfl rfl rfl (Nat.le_of_ble_eq_true rfl) ⟨Nat.le_of_ble_eq_true rfl, Nat.le_of_ble_eq_true rfl⟩ dX6_readLayer_127 (fun H locs hP hS => ?_)
              refine r_ias F hP hS 38 rfl rfl dX6_readLayer_130 hf (fun μ_35 H locs hP hS hf => ?_)
              refine lv_aload_n F.1.1 F.1.2.1 dX6_readLayer_131 rfl (lv_at hl 2 rfl) ?_
              refine lv_dup F.1.1 F.1.2.1 dX6_readLayer_132 rfl ?_
              refine gt_6_14 F hP 31 rfl inX6_readLayer_6 kX6_readLayer_95 dX6_readLayer_133 ?_
              refine lv_iconst (v := (1 : Int32)) F.1.1 F.1.2.1 dX6_readLayer_136 (by decide) ?_
              refine lv_iadd F.1.1 F.1.2.1 dX6_readLayer_137 ?_
              refine pt_6_14 F hP hS 31 rfl inX6_readLayer_6 kX6_readLayer_95 dX6_readLayer_138 hf (fun μ_36 H locs hP hS hf => ?_)
              refine lv_aload_n F.1.1 F.1.2.1 dX6_readLayer_141 rfl (lv_at hl 2 rfl) ?_
              refine gt_6_15 F hP 31 rfl inX6_readLayer_6 kX6_readLayer_28 dX6_readLayer_142 ?_
              refine lv_iload_n F.1.1 F.1.2.1 dX6_readLayer_145 rfl (lv_at hl 0 rfl) ?_
              refine lv_iconst (v := (2 : Int32)) F.1.1 F.1.2.1 dX6_readLayer_146 (by decide) ?_
              refine lv_iadd F.1.1 F.1.2.1 dX6_readLayer_147 ?_
              refine r_ial F hP 38 rfl rfl dX6_readLayer_148 hf (fun hf => ?_)
              refine lv_bipush (v := (-9 : Int32)) F.1.1 F.1.2.1 dX6_readLayer_149 (by decide) ?_
              refine jc_eq (tgt := 158) F dX6_readLayer_151 (by decide) hf (fun hf => ?_) (fun hf => ?_)
              · refine lv_iconst (v := (0 : Int32)) F.1.1 F.1.2.1 dX6_readLayer_158 (by decide) ?_
                exact retC F hP hS dX6_readLayer_159 (by decide) hf
              · refine lv_iconst (v := (1 : Int32)) F.1.1 F.1.2.1 dX6_readLayer_154 (by decide) ?_
                refine lv_goto (tgt := 159) F.1.1 F.1.2.1 dX6_readLayer_155 (by decide) ?_
                exact retC F hP hS dX6_readLayer_159 (by decide) hf
            · refine lv_iconst (v := (0 : Int32)) F.1.1 F.1.2.1 dX6_readLayer_116 (by decide) ?_
              exact retC F hP hS dX6_readLayer_117 (by decide) hf
          · refine lv_iconst (v := (0 : Int32)) F.1.1 F.1.2.1 dX6_readLayer_78 (by decide) ?_
            exact retC F hP hS dX6_readLayer_79 (by decide) hf
      · refine lv_iconst (v := (1 : Int32)) F.1.1 F.1.2.1 dX6_readLayer_50 (by decide) ?_
        refine lv_goto (tgt := 66) F.1.1 F.1.2.1 dX6_readLayer_51 (by decide) ?_
        refine r_ias F hP hS 38 rfl rfl dX6_readLayer_66 hf (fun μ_37 H locs hP hS hf => ?_)
        refine lv_aload_n F.1.1 F.1.2.1 dX6_readLayer_67 rfl (lv_at hl 2 rfl) ?_
        refine gt_6_15 F hP 31 rfl inX6_readLayer_6 kX6_readLayer_28 dX6_readLayer_68 ?_
        refine lv_iload_n F.1.1 F.1.2.1 dX6_readLayer_71 rfl (lv_at hl 0 rfl) ?_
        refine r_ial F hP 38 rfl rfl dX6_readLayer_72 hf (fun hf => ?_)
        refine lv_bipush (v := (-9 : Int32)) F.1.1 F.1.2.1 dX6_readLayer_73 (by decide) ?_
        refine jc_ne (tgt := 80) F dX6_readLayer_75 (by decide) hf (fun hf => ?_) (fun hf => ?_)
        · refine lv_aload_n F.1.1 F.1.2.1 dX6_readLayer_80 rfl (lv_at hl 2 rfl) ?_
          refine lv_dup F.1.1 F.1.2.1 dX6_readLayer_81 rfl ?_
          refine gt_6_11 F hP 31 rfl inX6_readLayer_6 kX6_readLayer_59 dX6_readLayer_82 ?_
          refine lv_iconst (v := (1 : Int32)) F.1.1 F.1.2.1 dX6_readLayer_85 (by decide) ?_
          refine lv_iadd F.1.1 F.1.2.1 dX6_readLayer_86 ?_
          refine pt_6_11 F hP hS 31 rfl inX6_readLayer_6 kX6_readLayer_59 dX6_readLayer_87 hf (fun μ_38 H locs hP hS hf => ?_)
          refine lv_aload_n F.1.1 F.1.2.1 dX6_readLayer_90 rfl (lv_at hl 2 rfl) ?_
          refine gt_6_15 F hP 31 rfl inX6_readLayer_6 kX6_readLayer_28 dX6_readLayer_91 ?_
          refine lv_iload_n F.1.1 F.1.2.1 dX6_readLayer_94 rfl (lv_at hl 0 rfl) ?_
          refine lv_iconst (v := (1 : Int32)) F.1.1 F.1.2.1 dX6_readLayer_95 (by decide) ?_
          refine lv_iadd F.1.1 F.1.2.1 dX6_readLayer_96 ?_
          refine lv_aload_n F.1.1 F.1.2.1 dX6_readLayer_97 rfl (lv_at hl 2 rfl) ?_
          refine lv_iload_n F.1.1 F.1.2.1 dX6_readLayer_98 rfl (lv_at hl 3 rfl) ?_
          obtain ⟨r_41, μ_39, hc_40, hf⟩ := bnd_some hf
          refine rV1 (R := rmX6_readLayer) (As := [.int x1]) (rest := [.int (y_14 + (1 : Int32)), .ref (ga G 38)]) F hP hS hl (mX6_digit l G F.2.2.2.2 x1 _ _ _ hc_40) gX6_readLayer_X6_digit rfl hdX6_digit rfl rfl rfl ⟨Nat.le_of_ble_eq_true rfl, Nat.le_of_ble_eq_true rfl⟩ (by decide) rfl rfl rfl (Nat.le_of_ble_eq_true rfl) ⟨Nat.le_of_ble_eq_true rfl, Nat.le_of_ble_eq_true rfl⟩ dX6_readLayer_99 (fun H locs hP hS => ?_)
          refine r_ias F hP hS 38 rfl rfl dX6_readLayer_102 hf (fun μ_42 H locs hP hS hf => ?_)
          refine lv_aload_n F.1.1 F.1.2.1 dX6_readLayer_103 rfl (lv_at hl 2 rfl) ?_
          refine gt_6_15 F hP 31 rfl inX6_readLayer_6 kX6_readLayer_28 dX6_readLayer_104 ?_
          refine lv_iload_n F.1.1 F.1.2.1 dX6_readLayer_107 rfl (lv_at hl 0 rfl) ?_
          refine lv_iconst (v := (1 : Int32)) F.1.1 F.1.2.1 dX6_readLayer_108 (by decide) ?_
          refine lv_iadd F.1.1 F.1.2.1 dX6_readLayer_109 ?_
          refine r_ial F hP 38 rfl rfl dX6_readLayer_110 hf (fun hf => ?_)
          refine lv_bipush (v := (-9 : Int32)) F.1.1 F.1.2.1 dX6_readLayer_111 (by decide) ?_
          refine jc_ne (tgt := 118) F dX6_readLayer_113 (by decide) hf (fun hf => ?_) (fun hf => ?_)
          · refine lv_aload_n F.1.1 F.1.2.1 dX6_readLayer_118 rfl (lv_at hl 2 rfl) ?_
            refine gt_6_15 F hP 31 rfl inX6_readLayer_6 kX6_readLayer_28 dX6_readLayer_119 ?_
            refine lv_iload_n F.1.1 F.1.2.1 dX6_readLayer_122 rfl (lv_at hl 0 rfl) ?_
            refine lv_iconst (v := (2 : Int32)) F.1.1 F.1.2.1 dX6_readLayer_123 (by decide) ?_
            refine lv_iadd F.1.1 F.1.2.1 dX6_readLayer_124 ?_
            refine lv_aload_n F.1.1 F.1.2.1 dX6_readLayer_125 rfl (lv_at hl 2 rfl) ?_
            refine lv_iload_n F.1.1 F.1.2.1 dX6_readLayer_126 rfl (lv_at hl 3 rfl) ?_
            obtain ⟨r_45, μ_43, hc_44, hf⟩ := bnd_some hf
            refine rV1 (R := rmX6_readLayer) (As := [.int x1]) (rest := [.int (y_14 + (2 : Int32)), .ref (ga G 38)]) F hP hS hl (mX6_digit l G F.2.2.2.2 x1 _ _ _ hc_44) gX6_readLayer_X6_digit rfl hdX6_digit rfl rfl rfl ⟨Nat.le_of_ble_eq_true rfl, Nat.le_of_ble_eq_true rfl⟩ (by decide) rfl rfl rfl (Nat.le_of_ble_eq_true rfl) ⟨Nat.le_of_ble_eq_true rfl, Nat.le_of_ble_eq_true rfl⟩ dX6_readLayer_127 (fun H locs hP hS => ?_)
            refine r_ias F hP hS 38 rfl rfl dX6_readLayer_130 hf (fun μ_46 H locs hP hS hf => ?_)
            refine lv_aload_n F.1.1 F.1.2.1 dX6_readLayer_131 rfl (lv_at hl 2 rfl) ?_
            refine lv_dup F.1.1 F.1.2.1 dX6_readLayer_132 rfl ?_
            refine gt_6_14 F hP 31 rfl inX6_readLayer_6 kX6_readLayer_95 dX6_readLayer_133 ?_
            refine lv_iconst (v := (1 : Int32)) F.1.1 F.1.2.1 dX6_readLayer_136 (by decide) ?_
            refine lv_iadd F.1.1 F.1.2.1 dX6_readLayer_137 ?_
            refine pt_6_14 F hP hS 31 rfl inX6_readLayer_6 kX6_readLayer_95 dX6_readLayer_138 hf (fun μ_47 H locs hP hS hf => ?_)
            refine lv_aload_n F.1.1 F.1.2.1 dX6_readLayer_141 rfl (lv_at hl 2 rfl) ?_
            refine gt_6_15 F hP 31 rfl inX6_readLayer_6 kX6_readLayer_28 dX6_readLayer_142 ?_
            refine lv_iload_n F.1.1 F.1.2.1 dX6_readLayer_145 rfl (lv_at hl 0 rfl) ?_
            refine lv_iconst (v := (2 : Int32)) F.1.1 F.1.2.1 dX6_readLayer_146 (by decide) ?_
            refine lv_iadd F.1.1 F.1.2.1 dX6_readLayer_147 ?_
            refine r_ial F hP 38 rfl rfl dX6_readLayer_148 hf (fun hf => ?_)
            refine lv_bipush (v := (-9 : Int32)) F.1.1 F.1.2.1 dX6_readLayer_149 (by decide) ?_
            refine jc_eq (tgt := 158) F dX6_readLayer_151 (by decide) hf (fun hf => ?_) (fun hf => ?_)
            · refine lv_iconst (v := (0 : Int32)) F.1.1 F.1.2.1 dX6_readLayer_158 (by decide) ?_
              exact retC F hP hS dX6_readLayer_159 (by decide) hf
            · refine lv_iconst (v := (1 : Int32)) F.1.1 F.1.2.1 dX6_readLayer_154 (by decide) ?_
              refine lv_goto (tgt := 159) F.1.1 F.1.2.1 dX6_readLayer_155 (by decide) ?_
              exact retC F hP hS dX6_readLayer_159 (by decide) hf
          · refine lv_iconst (v := (0 : Int32)) F.1.1 F.1.2.1 dX6_readLayer_116 (by decide) ?_
            exact retC F hP hS dX6_readLayer_117 (by decide) hf
        · refine lv_iconst (v := (0 : Int32)) F.1.1 F.1.2.1 dX6_readLayer_78 (by decide) ?_
          exact retC F hP hS dX6_readLayer_79 (by decide) hf
    · refine lv_iconst (v := (0 : Int32)) F.1.1 F.1.2.1 dX6_readLayer_40 (by decide) ?_
      refine lv_goto (tgt := 66) F.1.1 F.1.2.1 dX6_readLayer_41 (by decide) ?_
      refine r_ias F hP hS 38 rfl rfl dX6_readLayer_66 hf (fun μ_48 H locs hP hS hf => ?_)
      refine lv_aload_n F.1.1 F.1.2.1 dX6_readLayer_67 rfl (lv_at hl 2 rfl) ?_
      refine gt_6_15 F hP 31 rfl inX6_readLayer_6 kX6_readLayer_28 dX6_readLayer_68 ?_
      refine lv_iload_n F.1.1 F.1.2.1 dX6_readLayer_71 rfl (lv_at hl 0 rfl) ?_
      refine r_ial F hP 38 rfl rfl dX6_readLayer_72 hf (fun hf => ?_)
      refine lv_bipush (v := (-9 : Int32)) F.1.1 F.1.2.1 dX6_readLayer_73 (by decide) ?_
      refine jc_ne (tgt := 80) F dX6_readLayer_75 (by decide) hf (fun hf => ?_) (fun hf => ?_)
      · refine lv_aload_n F.1.1 F.1.2.1 dX6_readLayer_80 rfl (lv_at hl 2 rfl) ?_
        refine lv_dup F.1.1 F.1.2.1 dX6_readLayer_81 rfl ?_
        refine gt_6_11 F hP 31 rfl inX6_readLayer_6 kX6_readLayer_59 dX6_readLayer_82 ?_
        refine lv_iconst (v := (1 : Int32)) F.1.1 F.1.2.1 dX6_readLayer_85 (by decide) ?_
        refine lv_iadd F.1.1 F.1.2.1 dX6_readLayer_86 ?_
        refine pt_6_11 F hP hS 31 rfl inX6_readLayer_6 kX6_readLayer_59 dX6_readLayer_87 hf (fun μ_49 H locs hP hS hf => ?_)
        refine lv_aload_n F.1.1 F.1.2.1 dX6_readLayer_90 rfl (lv_at hl 2 rfl) ?_
        refine gt_6_15 F hP 31 rfl inX6_readLayer_6 kX6_readLayer_28 dX6_readLayer_91 ?_
        refine lv_iload_n F.1.1 F.1.2.1 dX6_readLayer_94 rfl (lv_at hl 0 rfl) ?_
        refine lv_iconst (v := (1 : Int32)) F.1.1 F.1.2.1 dX6_readLayer_95 (by decide) ?_
        refine lv_iadd F.1.1 F.1.2.1 dX6_readLayer_96 ?_
        refine lv_aload_n F.1.1 F.1.2.1 dX6_readLayer_97 rfl (lv_at hl 2 rfl) ?_
        refine lv_iload_n F.1.1 F.1.2.1 dX6_readLayer_98 rfl (lv_at hl 3 rfl) ?_
        obtain ⟨r_52, μ_50, hc_51, hf⟩ := bnd_some hf
        refine rV1 (R := rmX6_readLayer) (As := [.int x1]) (rest := [.int (y_14 + (1 : Int32)), .ref (ga G 38)]) F hP hS hl (mX6_digit l G F.2.2.2.2 x1 _ _ _ hc_51) gX6_readLayer_X6_digit rfl hdX6_digit rfl rfl rfl ⟨Nat.le_of_ble_eq_true rfl, Nat.le_of_ble_eq_true rfl⟩ (by decide) rfl rfl rfl (Nat.le_of_ble_eq_true rfl) ⟨Nat.le_of_ble_eq_true rfl, Nat.le_of_ble_eq_true rfl⟩ dX6_readLayer_99 (fun H locs hP hS => ?_)
        refine r_ias F hP hS 38 rfl rfl dX6_readLayer_102 hf (fun μ_53 H locs hP hS hf => ?_)
        refine lv_aload_n F.1.1 F.1.2.1 dX6_readLayer_103 rfl (lv_at hl 2 rfl) ?_
        refine gt_6_15 F hP 31 rfl inX6_readLayer_6 kX6_readLayer_28 dX6_readLayer_104 ?_
        refine lv_iload_n F.1.1 F.1.2.1 dX6_readLayer_107 rfl (lv_at hl 0 rfl) ?_
        refine lv_iconst (v := (1 : Int32)) F.1.1 F.1.2.1 dX6_readLayer_108 (by decide) ?_
        refine lv_iadd F.1.1 F.1.2.1 dX6_readLayer_109 ?_
        refine r_ial F hP 38 rfl rfl dX6_readLayer_110 hf (fun hf => ?_)
        refine lv_bipush (v := (-9 : Int32)) F.1.1 F.1.2.1 dX6_readLayer_111 (by decide) ?_
        refine jc_ne (tgt := 118) F dX6_readLayer_113 (by decide) hf (fun hf => ?_) (fun hf => ?_)
        · refine lv_aload_n F.1.1 F.1.2.1 dX6_readLayer_118 rfl (lv_at hl 2 rfl) ?_
          refine gt_6_15 F hP 31 rfl inX6_readLayer_6 kX6_readLayer_28 dX6_readLayer_119 ?_
          refine lv_iload_n F.1.1 F.1.2.1 dX6_readLayer_122 rfl (lv_at hl 0 rfl) ?_
          refine lv_iconst (v := (2 : Int32)) F.1.1 F.1.2.1 dX6_readLayer_123 (by decide) ?_
          refine lv_iadd F.1.1 F.1.2.1 dX6_readLayer_124 ?_
          refine lv_aload_n F.1.1 F.1.2.1 dX6_readLayer_125 rfl (lv_at hl 2 rfl) ?_
          refine lv_iload_n F.1.1 F.1.2.1 dX6_readLayer_126 rfl (lv_at hl 3 rfl) ?_
          obtain ⟨r_56, μ_54, hc_55, hf⟩ := bnd_some hf
          refine rV1 (R := rmX6_readLayer) (As := [.int x1]) (rest := [.int (y_14 + (2 : Int32)), .ref (ga G 38)]) F hP hS hl (mX6_digit l G F.2.2.2.2 x1 _ _ _ hc_55) gX6_readLayer_X6_digit rfl hdX6_digit rfl rfl rfl ⟨Nat.le_of_ble_eq_true rfl, Nat.le_of_ble_eq_true rfl⟩ (by decide) rfl rfl rfl (Nat.le_of_ble_eq_true rfl) ⟨Nat.le_of_ble_eq_true rfl, Nat.le_of_ble_eq_true rfl⟩ dX6_readLayer_127 (fun H locs hP hS => ?_)
          refine r_ias F hP hS 38 rfl rfl dX6_readLayer_130 hf (fun μ_57 H locs hP hS hf => ?_)
          refine lv_aload_n F.1.1 F.1.2.1 dX6_readLayer_131 rfl (lv_at hl 2 rfl) ?_
          refine lv_dup F.1.1 F.1.2.1 dX6_readLayer_132 rfl ?_
          refine gt_6_14 F hP 31 rfl inX6_readLayer_6 kX6_readLayer_95 dX6_readLayer_133 ?_
          refine lv_iconst (v := (1 : Int32)) F.1.1 F.1.2.1 dX6_readLayer_136 (by decide) ?_
          refine lv_iadd F.1.1 F.1.2.1 dX6_readLayer_137 ?_
          refine pt_6_14 F hP hS 31 rfl inX6_readLayer_6 kX6_readLayer_95 dX6_readLayer_138 hf (fun μ_58 H locs hP hS hf => ?_)
          refine lv_aload_n F.1.1 F.1.2.1 dX6_readLayer_141 rfl (lv_at hl 2 rfl) ?_
          refine gt_6_15 F hP 31 rfl inX6_readLayer_6 kX6_readLayer_28 dX6_readLayer_142 ?_
          refine lv_iload_n F.1.1 F.1.2.1 dX6_readLayer_145 rfl (lv_at hl 0 rfl) ?_
          refine lv_iconst (v := (2 : Int32)) F.1.1 F.1.2.1 dX6_readLayer_146 (by decide) ?_
          refine lv_iadd F.1.1 F.1.2.1 dX6_readLayer_147 ?_
          refine r_ial F hP 38 rfl rfl dX6_readLayer_148 hf (fun hf => ?_)
          refine lv_bipush (v := (-9 : Int32)) F.1.1 F.1.2.1 dX6_readLayer_149 (by decide) ?_
          refine jc_eq (tgt := 158) F dX6_readLayer_151 (by decide) hf (fun hf => ?_) (fun hf => ?_)
          · refine lv_iconst (v := (0 : Int32)) F.1.1 F.1.2.1 dX6_readLayer_158 (by decide) ?_
            exact retC F hP hS dX6_readLayer_159 (by decide) hf
          · refine lv_iconst (v := (1 : Int32)) F.1.1 F.1.2.1 dX6_readLayer_154 (by decide) ?_
            refine lv_goto (tgt := 159) F.1.1 F.1.2.1 dX6_readLayer_155 (by decide) ?_
            exact retC F hP hS dX6_readLayer_159 (by decide) hf
        · refine lv_iconst (v := (0 : Int32)) F.1.1 F.1.2.1 dX6_readLayer_116 (by decide) ?_
          exact retC F hP hS dX6_readLayer_117 (by decide) hf
      · refine lv_iconst (v := (0 : Int32)) F.1.1 F.1.2.1 dX6_readLayer_78 (by decide) ?_
        exact retC F hP hS dX6_readLayer_79 (by decide) hf
