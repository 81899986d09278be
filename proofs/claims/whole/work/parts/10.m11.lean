abbrev rmX6_begins : Room := { frames := 0, cells := 0, slots := 0, locals := 0 }
theorem hdX6_begins : yX6_begins.cls = RX6 ∧ yX6_begins.cls ≠ "java/lang/invoke/MethodHandle" ∧ yX6_begins.cls ≠ "java/lang/invoke/VarHandle" ∧ (parseMethodDescriptor yX6_begins.desc).map (fun d => d.parameters.length) = some 1 := by decide +kernel
theorem kX6_begins_211 : Cond.fieldLink RX6 211 "PaperLayersModel" "trace" "I" ∈ wsX6_begins := List.mem_cons_of_mem _ (List.mem_append_left _ (List.mem_of_getElem? (i := 0) rfl))
theorem inX6_begins_6 : ∀ w ∈ wsX60, w ∈ wsX6_begins := fun _ h => List.mem_cons_of_mem _ (List.mem_append_right _ (h))
set_option maxHeartbeats 4000000 in
set_option maxRecDepth 100000 in
theorem mX6_begins (l : Launch) (G : GT) (hG : GD G) (x1 : Int32) (μ : Mem) (r : Unit) (μ' : Mem) (hf : fX6_begins x1 μ = some (r, μ')) : Ct l yX6_begins wsX6_begins rmX6_begins G [.ref (ga G 31), .int x1] μ none μ' := by
  refine Ct.of (cc := cX6_begins) (maxL := 2) (ret := none) (own := RX6) hG (by decide) rfl rfl (Nat.le_of_ble_eq_true rfl) ?_
  intro p e s m args below meth c ls H locs F hl hP hS
  have hl : lv_has ls 2 [(0, .ref (ga G 31)), (1, .int x1)] := hl
  unfold fX6_begins at hf
  refine lv_aload_n F.1.1 F.1.2.1 dX6_begins_0 rfl (lv_at hl 0 rfl) ?_
  refine lv_bipush (v := (31 : Int32)) F.1.1 F.1.2.1 dX6_begins_1 (by decide) ?_
  refine lv_aload_n F.1.1 F.1.2.1 dX6_begins_3 rfl (lv_at hl 0 rfl) ?_
  refine gt_6_1 F hP 31 rfl inX6_begins_6 kX6_begins_211 dX6_begins_4 ?_
  refine lv_imul F.1.1 F.1.2.1 dX6_begins_7 ?_
  refine lv_iload_n F.1.1 F.1.2.1 dX6_begins_8 rfl (lv_at hl 1 rfl) ?_
  refine lv_iadd F.1.1 F.1.2.1 dX6_begins_9 ?_
  refine pt_6_1 F hP hS 31 rfl inX6_begins_6 kX6_begins_211 dX6_begins_10 hf (fun μ_1 H locs hP hS hf => ?_)
  exact retV F hP hS dX6_begins_13 hf
abbrev rmX6_tell : Room := { frames := 1, cells := 0, slots := 0, locals := 21 }
theorem hdX6_tell : yX6_tell.cls = RX6 ∧ yX6_tell.cls ≠ "java/lang/invoke/MethodHandle" ∧ yX6_tell.cls ≠ "java/lang/invoke/VarHandle" ∧ (parseMethodDescriptor yX6_tell.desc).map (fun d => d.parameters.length) = some 1 := by decide +kernel
theorem kX6_tell_19 : Cond.fieldLink RX6 19 "PaperLayersModel" "kind" "[I" ∈ wsX6_tell := List.mem_cons_of_mem _ (List.mem_append_left _ (List.mem_of_getElem? (i := 1) rfl))
theorem kX6_tell_22 : Cond.fieldLink RX6 22 "PaperLayersModel" "hold" "[I" ∈ wsX6_tell := List.mem_cons_of_mem _ (List.mem_append_left _ (List.mem_of_getElem? (i := 0) rfl))
theorem inX6_tell_6 : ∀ w ∈ wsX60, w ∈ wsX6_tell := fun _ h => List.mem_cons_of_mem _ (List.mem_append_right _ (h))
set_option maxHeartbeats 4000000 in
set_option maxRecDepth 100000 in
theorem mX6_tell (l : Launch) (G : GT) (hG : GD G) (x1 : Int32) (μ : Mem) (r : Int32) (μ' : Mem) (hf : fX6_tell x1 μ = some (r, μ')) : Ct l yX6_tell wsX6_tell rmX6_tell G [.ref (ga G 31), .int x1] μ (some (.int r)) μ' := by
  refine Ct.of (cc := cX6_tell) (maxL := 3) (ret := (some .int)) (own := RX6) hG (by decide) rfl rfl (Nat.le_of_ble_eq_true rfl) ?_
  intro p e s m args below meth c ls H locs F hl hP hS
  have hl : lv_has ls 3 [(0, .ref (ga G 31)), (1, .int x1)] := hl
  unfold fX6_tell at hf
  refine lv_aload_n F.1.1 F.1.2.1 dX6_tell_0 rfl (lv_at hl 0 rfl) ?_
  refine lv_iload_n F.1.1 F.1.2.1 dX6_tell_1 rfl (lv_at hl 1 rfl) ?_
  obtain ⟨r_3, μ_1, hc_2, hf⟩ := bnd_some hf
  refine rV1 (R := rmX6_tell) (As := [.int x1]) (rest := []) F hP hS hl (mX6_isLayer l G F.2.2.2.2 x1 _ _ _ hc_2) gX6_tell_X6_isLayer rfl hdX6_isLayer rfl rfl rfl ⟨Nat.le_of_ble_eq_true rfl, Nat.le_of_ble_eq_true rfl⟩ (by decide) rfl rfl rfl (Nat.le_of_ble_eq_true rfl) ⟨Nat.le_of_ble_eq_true rfl, Nat.le_of_ble_eq_true rfl⟩ dX6_tell_2 (fun H locs hP hS => ?_)
  refine jz_ne (tgt := 10) F dX6_tell_5 (by decide) hf (fun hf => ?_) (fun hf => ?_)
  · refine lv_aload_n F.1.1 F.1.2.1 dX6_tell_10 rfl (lv_at hl 0 rfl) ?_
    refine gt_6_9 F hP 31 rfl inX6_tell_6 kX6_tell_22 dX6_tell_11 ?_
    refine lv_iload_n F.1.1 F.1.2.1 dX6_tell_14 rfl (lv_at hl 1 rfl) ?_
    refine r_ial F hP 36 rfl rfl dX6_tell_15 hf (fun hf => ?_)
    refine top_i hf (fun y_4 hf => ?_)
    refine lv_istore_n (lv' := [(2, .int y_4), (0, .ref (ga G 31)), (1, .int x1)]) F.1.1 F.1.2.1 dX6_tell_16 rfl hl (by decide) rfl (fun ls hl => ?_)
    refine lv_aload_n F.1.1 F.1.2.1 dX6_tell_17 rfl (lv_at hl 1 rfl) ?_
    refine gt_6_8 F hP 31 rfl inX6_tell_6 kX6_tell_19 dX6_tell_18 ?_
    refine lv_iload_n F.1.1 F.1.2.1 dX6_tell_21 rfl (lv_at hl 2 rfl) ?_
    refine r_ial F hP 35 rfl rfl dX6_tell_22 hf (fun hf => ?_)
    refine split_sw (k := (1 : Int32)) hf (fun hk0 hf => ?_) (fun hn0 hf => ?_)
    · refine lv_lookup (tgt := 48) (off := 25) F.1.1 F.1.2.1 dX6_tell_23 (by decide) (by rw [hk0]; decide) (by decide) ?_
      refine lv_aload_n F.1.1 F.1.2.1 dX6_tell_48 rfl (lv_at hl 1 rfl) ?_
      refine lv_iconst (v := (2 : Int32)) F.1.1 F.1.2.1 dX6_tell_49 (by decide) ?_
      obtain ⟨u_7, μ_5, hc_6, hf⟩ := bnd_some hf
      refine rVv (R := rmX6_tell) (As := [.int (2 : Int32)]) (rest := []) F hP hS hl (mX6_begins l G F.2.2.2.2 (2 : Int32) _ _ _ hc_6) gX6_tell_X6_begins rfl hdX6_begins rfl rfl rfl ⟨Nat.le_of_ble_eq_true rfl, Nat.le_of_ble_eq_true rfl⟩ (by decide) rfl rfl rfl (Nat.le_of_ble_eq_true rfl) ⟨Nat.le_of_ble_eq_true rfl, Nat.le_of_ble_eq_true rfl⟩ dX6_tell_50 (fun H locs hP hS => ?_)
      refine lv_aload_n F.1.1 F.1.2.1 dX6_tell_53 rfl (lv_at hl 1 rfl) ?_
      refine lv_iconst (v := (1 : Int32)) F.1.1 F.1.2.1 dX6_tell_54 (by decide) ?_
      obtain ⟨u_10, μ_8, hc_9, hf⟩ := bnd_some hf
      refine rVv (R := rmX6_tell) (As := [.int (1 : Int32)]) (rest := []) F hP hS hl (mX6_begins l G F.2.2.2.2 (1 : Int32) _ _ _ hc_9) gX6_tell_X6_begins rfl hdX6_begins rfl rfl rfl ⟨Nat.le_of_ble_eq_true rfl, Nat.le_of_ble_eq_true rfl⟩ (by decide) rfl rfl rfl (Nat.le_of_ble_eq_true rfl) ⟨Nat.le_of_ble_eq_true rfl, Nat.le_of_ble_eq_true rfl⟩ dX6_tell_55 (fun H locs hP hS => ?_)
      refine lv_iload_n F.1.1 F.1.2.1 dX6_tell_58 rfl (lv_at hl 0 rfl) ?_
      refine lv_bipush (v := (100 : Int32)) F.1.1 F.1.2.1 dX6_tell_59 (by decide) ?_
      refine lv_iadd F.1.1 F.1.2.1 dX6_tell_61 ?_
      exact retI F hP hS dX6_tell_62 hf
    refine split_sw (k := (2 : Int32)) hf (fun hk1 hf => ?_) (fun hn1 hf => ?_)
    · refine lv_lookup (tgt := 63) (off := 40) F.1.1 F.1.2.1 dX6_tell_23 (by decide) (by rw [hk1]; decide) (by decide) ?_
      refine lv_aload_n F.1.1 F.1.2.1 dX6_tell_63 rfl (lv_at hl 1 rfl) ?_
      refine lv_iconst (v := (3 : Int32)) F.1.1 F.1.2.1 dX6_tell_64 (by decide) ?_
      obtain ⟨u_13, μ_11, hc_12, hf⟩ := bnd_some hf
      refine rVv (R := rmX6_tell) (As := [.int (3 : Int32)]) (rest := []) F hP hS hl (mX6_begins l G F.2.2.2.2 (3 : Int32) _ _ _ hc_12) gX6_tell_X6_begins rfl hdX6_begins rfl rfl rfl ⟨Nat.le_of_ble_eq_true rfl, Nat.le_of_ble_eq_true rfl⟩ (by decide) rfl rfl rfl (Nat.le_of_ble_eq_true rfl) ⟨Nat.le_of_ble_eq_true rfl, Nat.le_of_ble_eq_true rfl⟩ dX6_tell_65 (fun H locs hP hS => ?_)
      refine lv_aload_n F.1.1 F.1.2.1 dX6_tell_68 rfl (lv_at hl 1 rfl) ?_
      refine lv_iconst (v := (2 : Int32)) F.1.1 F.1.2.1 dX6_tell_69 (by decide) ?_
      obtain ⟨u_16, μ_14, hc_15, hf⟩ := bnd_some hf
      refine rVv (R := rmX6_tell) (As := [.int (2 : Int32)]) (rest := []) F hP hS hl (mX6_begins l G F.2.2.2.2 (2 : Int32) _ _ _ hc_15) gX6_tell_X6_begins rfl hdX6_begins rfl rfl rfl ⟨Nat.le_of_ble_eq_true rfl, Nat.le_of_ble_eq_true rfl⟩ (by decide) rfl rfl rfl (Nat.le_of_ble_eq_true rfl) ⟨Nat.le_of_ble_eq_true rfl, Nat.le_of_ble_eq_true rfl⟩ dX6_tell_70 (fun H locs hP hS => ?_)
      refine lv_aload_n F.1.1 F.1.2.1 dX6_tell_73 rfl (lv_at hl 1 rfl) ?_
      refine lv_iconst (v := (1 : Int32)) F.1.1 F.1.2.1 dX6_tell_74 (by decide) ?_
      obtain ⟨u_19, μ_17, hc_18, hf⟩ := bnd_some hf
      refine rVv (R := rmX6_tell) (As := [.int (1 : Int32)]) (rest := []) F hP hS hl (mX6_begins l G F.2.2.2.2 (1 : Int32) _ _ _ hc_18) gX6_tell_X6_begins rfl hdX6_begins rfl rfl rfl ⟨Nat.le_of_ble_eq_true rfl, Nat.le_of_ble_eq_true rfl⟩ (by decide) rfl rfl rfl (Nat.le_of_ble_eq_true rfl) ⟨Nat.le_of_ble_eq_true rfl, Nat.le_of_ble_eq_true rfl⟩ dX6_tell_75 (fun H locs hP hS => ?_)
      refine lv_aload_n F.1.1 F.1.2.1 dX6_tell_78 rfl (lv_at hl 1 rfl) ?_
      refine lv_iconst (v := (1 : Int32)) F.1.1 F.1.2.1 dX6_tell_79 (by decide) ?_
      obtain ⟨u_22, μ_20, hc_21, hf⟩ := bnd_some hf
      refine rVv (R := rmX6_tell) (As := [.int (1 : Int32)]) (rest := []) F hP hS hl (mX6_begins l G F.2.2.2.2 (1 : Int32) _ _ _ hc_21) gX6_tell_X6_begins rfl hdX6_begins rfl rfl rfl ⟨Nat.le_of_ble_eq_true rfl, Nat.le_of_ble_eq_true rfl⟩ (by decide) rfl rfl rfl (Nat.le_of_ble_eq_true rfl) ⟨Nat.le_of_ble_eq_true rfl, Nat.le_of_ble_eq_true rfl⟩ dX6_tell_80 (fun H locs hP hS => ?_)
      refine lv_iconst (v := (2 : Int32)) F.1.1 F.1.2.1 dX6_tell_83 (by decide) ?_
      refine lv_iload_n F.1.1 F.1.2.1 dX6_tell_84 rfl (lv_at hl 0 rfl) ?_
      refine lv_imul F.1.1 F.1.2.1 dX6_tell_85 ?_
      refine lv_bipush (v := (100 : Int32)) F.1.1 F.1.2.1 dX6_tell_86 (by decide) ?_
      refine lv_iadd F.1.1 F.1.2.1 dX6_tell_88 ?_
      exact retI F hP hS dX6_tell_89 hf
    refine lv_lookup (tgt := 90) (off := 67) F.1.1 F.1.2.1 dX6_tell_23 (by decide) (by refine (lv_osw hn0 (by decide)).trans ?_; refine (lv_osw hn1 (by decide)).trans ?_; rfl) (by decide) ?_
    refine lv_aload_n F.1.1 F.1.2.1 dX6_tell_90 rfl (lv_at hl 1 rfl) ?_
    refine lv_iconst (v := (1 : Int32)) F.1.1 F.1.2.1 dX6_tell_91 (by decide) ?_
    obtain ⟨u_25, μ_23, hc_24, hf⟩ := bnd_some hf
    refine rVv (R := rmX6_tell) (As := [.int (1 : Int32)]) (rest := []) F hP hS hl (mX6_begins l G F.2.2.2.2 (1 : Int32) _ _ _ hc_24) gX6_tell_X6_begins rfl hdX6_begins rfl rfl rfl ⟨Nat.le_of_ble_eq_true rfl, Nat.le_of_ble_eq_true rfl⟩ (by decide) rfl rfl rfl (Nat.le_of_ble_eq_true rfl) ⟨Nat.le_of_ble_eq_true rfl, Nat.le_of_ble_eq_true rfl⟩ dX6_tell_92 (fun H locs hP hS => ?_)
    refine lv_iload_n F.1.1 F.1.2.1 dX6_tell_95 rfl (lv_at hl 0 rfl) ?_
    exact retI F hP hS dX6_tell_96 hf
  · refine lv_iconst (v := (-1 : Int32)) F.1.1 F.1.2.1 dX6_tell_8 (by decide) ?_
    exact retI F hP hS dX6_tell_9 hf
abbrev rmX6_stroke : Room := { frames := 1, cells := 0, slots := 0, locals := 21 }
theorem hdX6_stroke : yX6_stroke.cls = RX6 ∧ yX6_stroke.cls ≠ "java/lang/invoke/MethodHandle" ∧ yX6_stroke.cls ≠ "java/lang/invoke/VarHandle" ∧ (parseMethodDescriptor yX6_stroke.desc).map (fun d => d.parameters.length) = some 1 := by decide +kernel
theorem kX6_stroke_19 : Cond.fieldLink RX6 19 "PaperLayersModel" "kind" "[I" ∈ wsX6_stroke := List.mem_cons_of_mem _ (List.mem_append_left _ (List.mem_of_getElem? (i := 0) rfl))
theorem kX6_stroke_25 : Cond.fieldLink RX6 25 "PaperLayersModel" "advice" "[I" ∈ wsX6_stroke := List.mem_cons_of_mem _ (List.mem_append_left _ (List.mem_of_getElem? (i := 1) rfl))
theorem inX6_stroke_6 : ∀ w ∈ wsX60, w ∈ wsX6_stroke := fun _ h => List.mem_cons_of_mem _ (List.mem_append_right _ (h))
set_option maxHeartbeats 4000000 in
set_option maxRecDepth 100000 in
theorem mX6_stroke (l : Launch) (G : GT) (hG : GD G) (x1 : Int32) (μ : Mem) (r : Int32) (μ' : Mem) (hf : fX6_stroke x1 μ = some (r, μ')) : Ct l yX6_stroke wsX6_stroke rmX6_stroke G [.ref (ga G 31), .int x1] μ (some (.int r)) μ' := by
  refine Ct.of (cc := cX6_stroke) (maxL := 2) (ret := (some .int)) (own := RX6) hG (by decide) rfl rfl (Nat.le_of_ble_eq_true rfl) ?_
  intro p e s m args below meth c ls H locs F hl hP hS
  have hl : lv_has ls 2 [(0, .ref (ga G 31)), (1, .int x1)] := hl
  unfold fX6_stroke at hf
  refine lv_aload_n F.1.1 F.1.2.1 dX6_stroke_0 rfl (lv_at hl 0 rfl) ?_
  refine lv_iload_n F.1.1 F.1.2.1 dX6_stroke_1 rfl (lv_at hl 1 rfl) ?_
  obtain ⟨r_3, μ_1, hc_2, hf⟩ := bnd_some hf
  refine rV1 (R := rmX6_stroke) (As := [.int x1]) (rest := []) F hP hS hl (mX6_isLayer l G F.2.2.2.2 x1 _ _ _ hc_2) gX6_stroke_X6_isLayer rfl hdX6_isLayer rfl rfl rfl ⟨Nat.le_of_ble_eq_true rfl, Nat.le_of_ble_eq_true rfl⟩ (by decide) rfl rfl rfl (Nat.le_of_ble_eq_true rfl) ⟨Nat.le_of_ble_eq_true rfl, Nat.le_of_ble_eq_true rfl⟩ dX6_stroke_2 (fun H locs hP hS => ?_)
  refine jz_ne (tgt := 10) F dX6_stroke_5 (by decide) hf (fun hf => ?_) (fun hf => ?_)
  · refine lv_aload_n F.1.1 F.1.2.1 dX6_stroke_10 rfl (lv_at hl 0 rfl) ?_
    refine lv_aload_n F.1.1 F.1.2.1 dX6_stroke_11 rfl (lv_at hl 0 rfl) ?_
    refine gt_6_8 F hP 31 rfl inX6_stroke_6 kX6_stroke_19 dX6_stroke_12 ?_
    refine lv_iload_n F.1.1 F.1.2.1 dX6_stroke_15 rfl (lv_at hl 1 rfl) ?_
    refine r_ial F hP 35 rfl rfl dX6_stroke_16 hf (fun hf => ?_)
    refine lv_iconst (v := (2 : Int32)) F.1.1 F.1.2.1 dX6_stroke_17 (by decide) ?_
    refine jc_ne (tgt := 25) F dX6_stroke_18 (by decide) hf (fun hf => ?_) (fun hf => ?_)
    · refine lv_iconst (v := (4 : Int32)) F.1.1 F.1.2.1 dX6_stroke_25 (by decide) ?_
      obtain ⟨u_6, μ_4, hc_5, hf⟩ := bnd_some hf
      refine rVv (R := rmX6_stroke) (As := [.int (4 : Int32)]) (rest := []) F hP hS hl (mX6_begins l G F.2.2.2.2 (4 : Int32) _ _ _ hc_5) gX6_stroke_X6_begins rfl hdX6_begins rfl rfl rfl ⟨Nat.le_of_ble_eq_true rfl, Nat.le_of_ble_eq_true rfl⟩ (by decide) rfl rfl rfl (Nat.le_of_ble_eq_true rfl) ⟨Nat.le_of_ble_eq_true rfl, Nat.le_of_ble_eq_true rfl⟩ dX6_stroke_26 (fun H locs hP hS => ?_)
      refine lv_aload_n F.1.1 F.1.2.1 dX6_stroke_29 rfl (lv_at hl 0 rfl) ?_
      refine gt_6_8 F hP 31 rfl inX6_stroke_6 kX6_stroke_19 dX6_stroke_30 ?_
      refine lv_iload_n F.1.1 F.1.2.1 dX6_stroke_33 rfl (lv_at hl 1 rfl) ?_
      refine r_ial F hP 35 rfl rfl dX6_stroke_34 hf (fun hf => ?_)
      refine lv_iconst (v := (2 : Int32)) F.1.1 F.1.2.1 dX6_stroke_35 (by decide) ?_
      refine jc_ne (tgt := 44) F dX6_stroke_36 (by decide) hf (fun hf => ?_) (fun hf => ?_)
      · refine lv_aload_n F.1.1 F.1.2.1 dX6_stroke_44 rfl (lv_at hl 0 rfl) ?_
        refine gt_6_10 F hP 31 rfl inX6_stroke_6 kX6_stroke_25 dX6_stroke_45 ?_
        refine lv_iload_n F.1.1 F.1.2.1 dX6_stroke_48 rfl (lv_at hl 1 rfl) ?_
        refine r_ial F hP 37 rfl rfl dX6_stroke_49 hf (fun hf => ?_)
        exact retI F hP hS dX6_stroke_50 hf
      · refine lv_bipush (v := (10 : Int32)) F.1.1 F.1.2.1 dX6_stroke_39 (by decide) ?_
        refine lv_goto (tgt := 50) F.1.1 F.1.2.1 dX6_stroke_41 (by decide) ?_
        exact retI F hP hS dX6_stroke_50 hf
    · refine lv_iconst (v := (5 : Int32)) F.1.1 F.1.2.1 dX6_stroke_21 (by decide) ?_
      refine lv_goto (tgt := 26) F.1.1 F.1.2.1 dX6_stroke_22 (by decide) ?_
      obtain ⟨u_9, μ_7, hc_8, hf⟩ := bnd_some hf
      refine rVv (R := rmX6_stroke) (As := [.int (5 : Int32)]) (rest := []) F hP hS hl (mX6_begins l G F.2.2.2.2 (5 : Int32) _ _ _ hc_8) gX6_stroke_X6_begins rfl hdX6_begins rfl rfl rfl ⟨Nat.le_of_ble_eq_true rfl, Nat.le_of_ble_eq_true rfl⟩ (by decide) rfl rfl rfl (Nat.le_of_ble_eq_true rfl) ⟨Nat.le_of_ble_eq_true rfl, Nat.le_of_ble_eq_true rfl⟩ dX6_stroke_26 (fun H locs hP hS => ?_)
      refine lv_aload_n F.1.1 F.1.2.1 dX6_stroke_29 rfl (lv_at hl 0 rfl) ?_
      refine gt_6_8 F hP 31 rfl inX6_stroke_6 kX6_stroke_19 dX6_stroke_30 ?_
      refine lv_iload_n F.1.1 F.1.2.1 dX6_stroke_33 rfl (lv_at hl 1 rfl) ?_
      refine r_ial F hP 35 rfl rfl dX6_stroke_34 hf (fun hf => ?_)
      refine lv_iconst (v := (2 : Int32)) F.1.1 F.1.2.1 dX6_stroke_35 (by decide) ?_
      refine jc_ne (tgt := 44) F dX6_stroke_36 (by decide) hf (fun hf => ?_) (fun hf => ?_)
      · refine lv_aload_n F.1.1 F.1.2.1 dX6_stroke_44 rfl (lv_at hl 0 rfl) ?_
        refine gt_6_10 F hP 31 rfl inX6_stroke_6 kX6_stroke_25 dX6_stroke_45 ?_
        refine lv_iload_n F.1.1 F.1.2.1 dX6_stroke_48 rfl (lv_at hl 1 rfl) ?_
        refine r_ial F hP 37 rfl rfl dX6_stroke_49 hf (fun hf => ?_)
        exact retI F hP hS dX6_stroke_50 hf
      · refine lv_bipush (v := (10 : Int32)) F.1.1 F.1.2.1 dX6_stroke_39 (by decide) ?_
        refine lv_goto (tgt := 50) F.1.1 F.1.2.1 dX6_stroke_41 (by decide) ?_
        exact retI F hP hS dX6_stroke_50 hf
  · refine lv_iconst (v := (-1 : Int32)) F.1.1 F.1.2.1 dX6_stroke_8 (by decide) ?_
    exact retI F hP hS dX6_stroke_9 hf
abbrev rmX6_as : Room := { frames := 1, cells := 0, slots := 0, locals := 22 }
theorem hdX6_as : yX6_as.cls = RX6 ∧ yX6_as.cls ≠ "java/lang/invoke/MethodHandle" ∧ yX6_as.cls ≠ "java/lang/invoke/VarHandle" ∧ (parseMethodDescriptor yX6_as.desc).map (fun d => d.parameters.length) = some 2 := by decide +kernel
theorem kX6_as_19 : Cond.fieldLink RX6 19 "PaperLayersModel" "kind" "[I" ∈ wsX6_as := List.mem_cons_of_mem _ (List.mem_append_left _ (List.mem_of_getElem? (i := 1) rfl))
theorem kX6_as_46 : Cond.fieldLink RX6 46 "PaperLayersModel" "fault" "I" ∈ wsX6_as := List.mem_cons_of_mem _ (List.mem_append_left _ (List.mem_of_getElem? (i := 0) rfl))
theorem inX6_as_6 : ∀ w ∈ wsX60, w ∈ wsX6_as := fun _ h => List.mem_cons_of_mem _ (List.mem_append_right _ (h))
set_option maxHeartbeats 4000000 in
set_option maxRecDepth 100000 in
theorem mX6_as (l : Launch) (G : GT) (hG : GD G) (x1 : Int32) (x2 : Int32) (μ : Mem) (r : Int32) (μ' : Mem) (hf : fX6_as x1 x2 μ = some (r, μ')) : Ct l yX6_as wsX6_as rmX6_as G [.ref (ga G 31), .int x1, .int x2] μ (some (.int r)) μ' := by
  refine Ct.of (cc := cX6_as) (maxL := 3) (ret := (some .int)) (own := RX6) hG (by decide) rfl rfl (Nat.le_of_ble_eq_true rfl) ?_
  intro p e s m args below meth c ls H locs F hl hP hS
  have hl : lv_has ls 3 [(0, .ref (ga G 31)), (1, .int x1), (2, .int x2)] := hl
  unfold fX6_as at hf
  refine lv_aload_n F.1.1 F.1.2.1 dX6_as_0 rfl (lv_at hl 0 rfl) ?_
  refine lv_iconst (v := (0 : Int32)) F.1.1 F.1.2.1 dX6_as_1 (by decide) ?_
  refine pt_6_0 F hP hS 31 rfl inX6_as_6 kX6_as_46 dX6_as_2 hf (fun μ_1 H locs hP hS hf => ?_)
  refine lv_aload_n F.1.1 F.1.2.1 dX6_as_5 rfl (lv_at hl 0 rfl) ?_
  refine lv_iload_n F.1.1 F.1.2.1 dX6_as_6 rfl (lv_at hl 1 rfl) ?_
  obtain ⟨r_4, μ_2, hc_3, hf⟩ := bnd_some hf
  refine rV1 (R := rmX6_as) (As := [.int x1]) (rest := []) F hP hS hl (mX6_isLayer l G F.2.2.2.2 x1 _ _ _ hc_3) gX6_as_X6_isLayer rfl hdX6_isLayer rfl rfl rfl ⟨Nat.le_of_ble_eq_true rfl, Nat.le_of_ble_eq_true rfl⟩ (by decide) rfl rfl rfl (Nat.le_of_ble_eq_true rfl) ⟨Nat.le_of_ble_eq_true rfl, Nat.le_of_ble_eq_true rfl⟩ dX6_as_7 (fun H locs hP hS => ?_)
  refine jz_ne (tgt := 15) F dX6_as_10 (by decide) hf (fun hf => ?_) (fun hf => ?_)
  · refine lv_iload_n F.1.1 F.1.2.1 dX6_as_15 rfl (lv_at hl 2 rfl) ?_
    refine lv_iconst (v := (0 : Int32)) F.1.1 F.1.2.1 dX6_as_16 (by decide) ?_
    refine lv_iconst (v := (2 : Int32)) F.1.1 F.1.2.1 dX6_as_17 (by decide) ?_
    obtain ⟨r_7, μ_5, hc_6, hf⟩ := bnd_some hf
    refine rS1 (R := rmX6_as) (As := [.int x2, .int (0 : Int32), .int (2 : Int32)]) (rest := []) F hP hS hl (mX6_within l G F.2.2.2.2 x2 (0 : Int32) (2 : Int32) _ _ _ hc_6) gX6_as_X6_within hdX6_within rfl rfl rfl ⟨Nat.le_of_ble_eq_true rfl, Nat.le_of_ble_eq_true rfl⟩ rfl rfl (Nat.le_of_ble_eq_true rfl) ⟨Nat.le_of_ble_eq_true rfl, Nat.le_of_ble_eq_true rfl⟩ dX6_as_18 (fun H locs hP hS => ?_)
    refine jz_ne (tgt := 27) F dX6_as_21 (by decide) hf (fun hf => ?_) (fun hf => ?_)
    · refine lv_aload_n F.1.1 F.1.2.1 dX6_as_27 rfl (lv_at hl 0 rfl) ?_
      refine gt_6_8 F hP 31 rfl inX6_as_6 kX6_as_19 dX6_as_28 ?_
      refine lv_iload_n F.1.1 F.1.2.1 dX6_as_31 rfl (lv_at hl 1 rfl) ?_
      refine r_ial F hP 35 rfl rfl dX6_as_32 hf (fun hf => ?_)
      refine lv_iload_n F.1.1 F.1.2.1 dX6_as_33 rfl (lv_at hl 2 rfl) ?_
      refine jc_lt (tgt := 41) F dX6_as_34 (by decide) hf (fun hf => ?_) (fun hf => ?_)
      · refine lv_aload_n F.1.1 F.1.2.1 dX6_as_41 rfl (lv_at hl 0 rfl) ?_
        refine lv_iconst (v := (2 : Int32)) F.1.1 F.1.2.1 dX6_as_42 (by decide) ?_
        obtain ⟨r_10, μ_8, hc_9, hf⟩ := bnd_some hf
        refine rV1 (R := rmX6_as) (As := [.int (2 : Int32)]) (rest := []) F hP hS hl (mX6_fails l G F.2.2.2.2 (2 : Int32) _ _ _ hc_9) gX6_as_X6_fails rfl hdX6_fails rfl rfl rfl ⟨Nat.le_of_ble_eq_true rfl, Nat.le_of_ble_eq_true rfl⟩ (by decide) rfl rfl rfl (Nat.le_of_ble_eq_true rfl) ⟨Nat.le_of_ble_eq_true rfl, Nat.le_of_ble_eq_true rfl⟩ dX6_as_43 (fun H locs hP hS => ?_)
        exact retI F hP hS dX6_as_46 hf
      · refine lv_iconst (v := (1 : Int32)) F.1.1 F.1.2.1 dX6_as_37 (by decide) ?_
        refine lv_goto (tgt := 46) F.1.1 F.1.2.1 dX6_as_38 (by decide) ?_
        exact retI F hP hS dX6_as_46 hf
    · refine lv_bipush (v := (-2 : Int32)) F.1.1 F.1.2.1 dX6_as_24 (by decide) ?_
      exact retI F hP hS dX6_as_26 hf
  · refine lv_iconst (v := (-1 : Int32)) F.1.1 F.1.2.1 dX6_as_13 (by decide) ?_
    exact retI F hP hS dX6_as_14 hf
abbrev rmX6_trace : Room := { frames := 0, cells := 0, slots := 0, locals := 0 }
theorem hdX6_trace : yX6_trace.cls = RX6 ∧ yX6_trace.cls ≠ "java/lang/invoke/MethodHandle" ∧ yX6_trace.cls ≠ "java/lang/invoke/VarHandle" ∧ (parseMethodDescriptor yX6_trace.desc).map (fun d => d.parameters.length) = some 0 := by decide +kernel
theorem kX6_trace_211 : Cond.fieldLink RX6 211 "PaperLayersModel" "trace" "I" ∈ wsX6_trace := List.mem_cons_of_mem _ (List.mem_append_left _ (List.mem_of_getElem? (i := 0) rfl))
theorem inX6_trace_6 : ∀ w ∈ wsX60, w ∈ wsX6_trace := fun _ h => List.mem_cons_of_mem _ (List.mem_append_right _ (h))
set_option maxHeartbeats 4000000 in
set_option maxRecDepth 100000 in
theorem mX6_trace (l : Launch) (G : GT) (hG : GD G) (μ : Mem) (r : Int32) (μ' : Mem) (hf : fX6_trace μ = some (r, μ')) : Ct l yX6_trace wsX6_trace rmX6_trace G [.ref (ga G 31)] μ (some (.int r)) μ' := by
  refine Ct.of (cc := cX6_trace) (maxL := 1) (ret := (some .int)) (own := RX6) hG (by decide) rfl rfl (Nat.le_of_ble_eq_true rfl) ?_
  intro p e s m args below meth c ls H locs F hl hP hS
  have hl : lv_has ls 1 [(0, .ref (ga G 31))] := hl
  unfold fX6_trace at hf
  refine lv_aload_n F.1.1 F.1.2.1 dX6_trace_0 rfl (lv_at hl 0 rfl) ?_
  refine gt_6_1 F hP 31 rfl inX6_trace_6 kX6_trace_211 dX6_trace_1 ?_
  exact retI F hP hS dX6_trace_4 hf
abbrev rmX6_fault : Room := { frames := 0, cells := 0, slots := 0, locals := 0 }
theorem hdX6_fault : yX6_fault.cls = RX6 ∧ yX6_fault.cls ≠ "java/lang/invoke/MethodHandle" ∧ yX6_fault.cls ≠ "java/lang/invoke/VarHandle" ∧ (parseMethodDescriptor yX6_fault.desc).map (fun d => d.parameters.length) = some 0 := by decide +kernel
theorem kX6_fault_46 : Cond.fieldLink RX6 46 "PaperLayersModel" "fault" "I" ∈ wsX6_fault := List.mem_cons_of_mem _ (List.mem_append_left _ (List.mem_of_getElem? (i := 0) rfl))
theorem inX6_fault_6 : ∀ w ∈ wsX60, w ∈ wsX6_fault := fun _ h => List.mem_cons_of_mem _ (List.mem_append_right _ (h))
set_option maxHeartbeats 4000000 in
set_option maxRecDepth 100000 in
theorem mX6_fault (l : Launch) (G : GT) (hG : GD G) (μ : Mem) (r : Int32) (μ' : Mem) (hf : fX6_fault μ = some (r, μ')) : Ct l yX6_fault wsX6_fault rmX6_fault G [.ref (ga G 31)] μ (some (.int r)) μ' := by
  refine Ct.of (cc := cX6_fault) (maxL := 1) (ret := (some .int)) (own := RX6) hG (by decide) rfl rfl (Nat.le_of_ble_eq_true rfl) ?_
  intro p e s m args below meth c ls H locs F hl hP hS
  have hl : lv_has ls 1 [(0, .ref (ga G 31))] := hl
  unfold fX6_fault at hf
  refine lv_aload_n F.1.1 F.1.2.1 dX6_fault_0 rfl (lv_at hl 0 rfl) ?_
  refine gt_6_0 F hP 31 rfl inX6_fault_6 kX6_fault_46 dX6_fault_1 ?_
  exact retI F hP hS dX6_fault_4 hf
abbrev rmX6_many : Room := { frames := 4, cells := 0, slots := 0, locals := 94 }
theorem hdX6_many : yX6_many.cls = RX6 ∧ yX6_many.cls ≠ "java/lang/invoke/MethodHandle" ∧ yX6_many.cls ≠ "java/lang/invoke/VarHandle" ∧ (parseMethodDescriptor yX6_many.desc).map (fun d => d.parameters.length) = some 1 := by decide +kernel
theorem kX6_many_56 : Cond.fieldLink RX6 56 "PaperLayersModel" "layers" "I" ∈ wsX6_many := List.mem_cons_of_mem _ (List.mem_append_left _ (List.mem_append_left _ (List.mem_of_getElem? (i := 0) rfl)))
theorem kX6_many_86 : Cond.fieldLink RX6 86 "PaperLayersModel" "warmNow" "I" ∈ wsX6_many := List.mem_cons_of_mem _ (List.mem_append_left _ (List.mem_append_left _ (List.mem_of_getElem? (i := 1) rfl)))
theorem kX6_many_92 : Cond.fieldLink RX6 92 "PaperLayersModel" "dampNow" "I" ∈ wsX6_many := List.mem_cons_of_mem _ (List.mem_append_left _ (List.mem_append_left _ (List.mem_of_getElem? (i := 2) rfl)))
theorem kX6_many_98 : Cond.fieldLink RX6 98 "PaperLayersModel" "readings" "I" ∈ wsX6_many := List.mem_cons_of_mem _ (List.mem_append_left _ (List.mem_append_left _ (List.mem_of_getElem? (i := 3) rfl)))
theorem inX6_many_6 : ∀ w ∈ wsX60, w ∈ wsX6_many := fun _ h => List.mem_cons_of_mem _ (List.mem_append_right _ (h))
set_option maxHeartbeats 4000000 in
set_option maxRecDepth 100000 in
theorem mX6_many (l : Launch) (G : GT) (hG : GD G) (x1 : Int32) (μ : Mem) (r : Int32) (μ' : Mem) (hf : fX6_many x1 μ = some (r, μ')) : Ct l yX6_many wsX6_many rmX6_many G [.ref (ga G 31), .int x1] μ (some (.int r)) μ' := by
  refine Ct.of (cc := cX6_many) (maxL := 2) (ret := (some .int)) (own := RX6) hG (by decide) rfl rfl (Nat.le_of_ble_eq_true rfl) ?_
  intro p e s m args below meth c ls H locs F hl hP hS
  have hl : lv_has ls 2 [(0, .ref (ga G 31)), (1, .int x1)] := hl
  unfold fX6_many at hf
  refine lv_iload_n F.1.1 F.1.2.1 dX6_many_0 rfl (lv_at hl 1 rfl) ?_
  refine split_sw (k := (0 : Int32)) hf (fun hk0 hf => ?_) (fun hn0 hf => ?_)
  · refine lv_tableIn (tgt := 36) (off := 35) F.1.1 F.1.2.1 dX6_many_1 (by rw [hk0]; decide) (by rw [hk0]; decide) (by rw [hk0]; rfl) (by decide) ?_
    refine lv_aload_n F.1.1 F.1.2.1 dX6_many_36 rfl (lv_at hl 0 rfl) ?_
    refine gt_6_5 F hP 31 rfl inX6_many_6 kX6_many_56 dX6_many_37 ?_
    exact retI F hP hS dX6_many_40 hf
  refine split_sw (k := (1 : Int32)) hf (fun hk1 hf => ?_) (fun hn1 hf => ?_)
  · refine lv_tableIn (tgt := 41) (off := 40) F.1.1 F.1.2.1 dX6_many_1 (by rw [hk1]; decide) (by rw [hk1]; decide) (by rw [hk1]; rfl) (by decide) ?_
    refine lv_aload_n F.1.1 F.1.2.1 dX6_many_41 rfl (lv_at hl 0 rfl) ?_
    refine gt_6_6 F hP 31 rfl inX6_many_6 kX6_many_86 dX6_many_42 ?_
    exact retI F hP hS dX6_many_45 hf
  refine split_sw (k := (2 : Int32)) hf (fun hk2 hf => ?_) (fun hn2 hf => ?_)
  · refine lv_tableIn (tgt := 46) (off := 45) F.1.1 F.1.2.1 dX6_many_1 (by rw [hk2]; decide) (by rw [hk2]; decide) (by rw [hk2]; rfl) (by decide) ?_
    refine lv_aload_n F.1.1 F.1.2.1 dX6_many_46 rfl (lv_at hl 0 rfl) ?_
    refine gt_6_7 F hP 31 rfl inX6_many_6 kX6_many_92 dX6_many_47 ?_
    exact retI F hP hS dX6_many_50 hf
  refine split_sw (k := (3 : Int32)) hf (fun hk3 hf => ?_) (fun hn3 hf => ?_)
  · refine lv_tableIn (tgt := 51) (off := 50) F.1.1 F.1.2.1 dX6_many_1 (by rw [hk3]; decide) (by rw [hk3]; decide) (by rw [hk3]; rfl) (by decide) ?_
    refine lv_aload_n F.1.1 F.1.2.1 dX6_many_51 rfl (lv_at hl 0 rfl) ?_
    refine gt_6_5 F hP 31 rfl inX6_many_6 kX6_many_56 dX6_many_52 ?_
    refine jz_ne (tgt := 62) F dX6_many_55 (by decide) hf (fun hf => ?_) (fun hf => ?_)
    · refine lv_aload_n F.1.1 F.1.2.1 dX6_many_62 rfl (lv_at hl 0 rfl) ?_
      obtain ⟨r_3, μ_1, hc_2, hf⟩ := bnd_some hf
      refine rV1 (R := rmX6_many) (As := []) (rest := []) F hP hS hl (mX6_heardNow l G F.2.2.2.2  _ _ _ hc_2) gX6_many_X6_heardNow rfl hdX6_heardNow rfl rfl rfl ⟨Nat.le_of_ble_eq_true rfl, Nat.le_of_ble_eq_true rfl⟩ (by decide) rfl rfl rfl (Nat.le_of_ble_eq_true rfl) ⟨Nat.le_of_ble_eq_true rfl, Nat.le_of_ble_eq_true rfl⟩ dX6_many_63 (fun H locs hP hS => ?_)
      obtain ⟨r_6, μ_4, hc_5, hf⟩ := bnd_some hf
      refine rS1 (R := rmX6_many) (As := [.int r_3]) (rest := []) F hP hS hl (mX6_size l G F.2.2.2.2 r_3 _ _ _ hc_5) gX6_many_X6_size hdX6_size rfl rfl rfl ⟨Nat.le_of_ble_eq_true rfl, Nat.le_of_ble_eq_true rfl⟩ rfl rfl (Nat.le_of_ble_eq_true rfl) ⟨Nat.le_of_ble_eq_true rfl, Nat.le_of_ble_eq_true rfl⟩ dX6_many_66 (fun H locs hP hS => ?_)
      exact retI F hP hS dX6_many_69 hf
    · refine lv_iconst (v := (0 : Int32)) F.1.1 F.1.2.1 dX6_many_58 (by decide) ?_
      refine lv_goto (tgt := 69) F.1.1 F.1.2.1 dX6_many_59 (by decide) ?_
      exact retI F hP hS dX6_many_69 hf
  refine split_sw (k := (4 : Int32)) hf (fun hk4 hf => ?_) (fun hn4 hf => ?_)
  · refine lv_tableIn (tgt := 70) (off := 69) F.1.1 F.1.2.1 dX6_many_1 (by rw [hk4]; decide) (by rw [hk4]; decide) (by rw [hk4]; rfl) (by decide) ?_
    refine lv_aload_n F.1.1 F.1.2.1 dX6_many_70 rfl (lv_at hl 0 rfl) ?_
    refine gt_6_22 F hP 31 rfl inX6_many_6 kX6_many_98 dX6_many_71 ?_
    exact retI F hP hS dX6_many_74 hf
  refine lv_tableOut (tgt := 75) F.1.1 F.1.2.1 dX6_many_1 (by have q0 := lv_neT hn0 (a := 0) (by decide); have q1 := lv_neT hn1 (a := 1) (by decide); have q2 := lv_neT hn2 (a := 2) (by decide); have q3 := lv_neT hn3 (a := 3) (by decide); have q4 := lv_neT hn4 (a := 4) (by decide); omega) (by decide) ?_
  refine lv_bipush (v := (-2 : Int32)) F.1.1 F.1.2.1 dX6_many_75 (by decide) ?_
  exact retI F hP hS dX6_many_77 hf
