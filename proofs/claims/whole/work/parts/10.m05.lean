abbrev rmX5_holds : Room := { frames := 6, cells := 0, slots := 0, locals := 136 }
theorem hdX5_holds : yX5_holds.cls = RX5 ∧ yX5_holds.cls ≠ "java/lang/invoke/MethodHandle" ∧ yX5_holds.cls ≠ "java/lang/invoke/VarHandle" ∧ (parseMethodDescriptor yX5_holds.desc).map (fun d => d.parameters.length) = some 1 := by decide +kernel
theorem kX5_holds_12 : Cond.fieldLink RX5 12 "PaperLayers" "now" "LPaperLayers$Wall;" ∈ wsX5_holds := List.mem_cons_of_mem _ (List.mem_append_left _ (List.mem_append_left _ (List.mem_append_left _ (List.mem_append_left _ (List.mem_append_left _ (List.mem_of_getElem? (i := 0) rfl))))))
theorem inX5_holds_5 : ∀ w ∈ wsX50, w ∈ wsX5_holds := fun _ h => List.mem_cons_of_mem _ (List.mem_append_left _ (List.mem_append_left _ (List.mem_append_left _ (List.mem_append_right _ (h)))))
set_option maxHeartbeats 4000000 in
set_option maxRecDepth 100000 in
theorem mX5_holds (l : Launch) (G : GT) (hG : GD G) (x1 : Int32) (μ : Mem) (r : Int32) (μ' : Mem) (hf : fX5_holds x1 μ = some (r, μ')) : Ct l yX5_holds wsX5_holds rmX5_holds G [.ref (ga G 0), .int x1] μ (some (.int r)) μ' := by
  refine Ct.of (cc := cX5_holds) (maxL := 2) (ret := (some .int)) (own := RX5) hG (by decide) rfl rfl (Nat.le_of_ble_eq_true rfl) ?_
  intro p e s m args below meth c ls H locs F hl hP hS
  have hl : lv_has ls 2 [(0, .ref (ga G 0)), (1, .int x1)] := hl
  unfold fX5_holds at hf
  refine lv_aload_n F.1.1 F.1.2.1 dX5_holds_0 rfl (lv_at hl 0 rfl) ?_
  refine gt_5_0 F hP 0 rfl inX5_holds_5 kX5_holds_12 dX5_holds_1 ?_
  refine lv_iload_n F.1.1 F.1.2.1 dX5_holds_4 rfl (lv_at hl 1 rfl) ?_
  obtain ⟨r_3, μ_1, hc_2, hf⟩ := bnd_some hf
  refine rV1 (R := rmX5_holds) (As := [.int x1]) (rest := []) F hP hS hl (mX4_layerAt l G F.2.2.2.2 1 rfl x1 _ _ _ hc_2) gX5_holds_X4_layerAt rfl hdX4_layerAt rfl rfl rfl ⟨Nat.le_of_ble_eq_true rfl, Nat.le_of_ble_eq_true rfl⟩ (by decide) rfl rfl rfl (Nat.le_of_ble_eq_true rfl) ⟨Nat.le_of_ble_eq_true rfl, Nat.le_of_ble_eq_true rfl⟩ dX5_holds_5 (fun H locs hP hS => ?_)
  refine top_o hf (fun hf => ?_) (fun i_4 ho_5 hf => ?_)
  · refine lv_ifnonnullN F.1.1 F.1.2.1 dX5_holds_8 ?_
    refine lv_iconst (v := (-1 : Int32)) F.1.1 F.1.2.1 dX5_holds_11 (by decide) ?_
    refine lv_goto (tgt := 23) F.1.1 F.1.2.1 dX5_holds_12 (by decide) ?_
    exact retI F hP hS dX5_holds_23 hf
  · have s_6 := shX4_layerAt_r rfl (ho_5 ▸ hc_2)
    refine lv_ifnonnull (tgt := 15) F.1.1 F.1.2.1 dX5_holds_8 (by decide) ?_
    refine lv_aload_n F.1.1 F.1.2.1 dX5_holds_15 rfl (lv_at hl 0 rfl) ?_
    refine lv_iload_n F.1.1 F.1.2.1 dX5_holds_16 rfl (lv_at hl 1 rfl) ?_
    refine lv_iconst (v := (1 : Int32)) F.1.1 F.1.2.1 dX5_holds_17 (by decide) ?_
    refine lv_bipush (v := (9 : Int32)) F.1.1 F.1.2.1 dX5_holds_18 (by decide) ?_
    obtain ⟨r_9, μ_7, hc_8, hf⟩ := bnd_some hf
    refine rV1 (R := rmX5_holds) (As := [.int x1, .int (1 : Int32), .int (9 : Int32)]) (rest := []) F hP hS hl (mX5_fitting l G F.2.2.2.2 x1 (1 : Int32) (9 : Int32) _ _ _ hc_8) gX5_holds_X5_fitting rfl hdX5_fitting rfl rfl rfl ⟨Nat.le_of_ble_eq_true rfl, Nat.le_of_ble_eq_true rfl⟩ (by decide) rfl rfl rfl (Nat.le_of_ble_eq_true rfl) ⟨Nat.le_of_ble_eq_true rfl, Nat.le_of_ble_eq_true rfl⟩ dX5_holds_20 (fun H locs hP hS => ?_)
    exact retI F hP hS dX5_holds_23 hf
abbrev rmX5_advices : Room := { frames := 6, cells := 0, slots := 0, locals := 136 }
theorem hdX5_advices : yX5_advices.cls = RX5 ∧ yX5_advices.cls ≠ "java/lang/invoke/MethodHandle" ∧ yX5_advices.cls ≠ "java/lang/invoke/VarHandle" ∧ (parseMethodDescriptor yX5_advices.desc).map (fun d => d.parameters.length) = some 1 := by decide +kernel
theorem kX5_advices_12 : Cond.fieldLink RX5 12 "PaperLayers" "now" "LPaperLayers$Wall;" ∈ wsX5_advices := List.mem_cons_of_mem _ (List.mem_append_left _ (List.mem_append_left _ (List.mem_append_left _ (List.mem_append_left _ (List.mem_append_left _ (List.mem_of_getElem? (i := 0) rfl))))))
theorem inX5_advices_5 : ∀ w ∈ wsX50, w ∈ wsX5_advices := fun _ h => List.mem_cons_of_mem _ (List.mem_append_left _ (List.mem_append_left _ (List.mem_append_left _ (List.mem_append_right _ (h)))))
set_option maxHeartbeats 4000000 in
set_option maxRecDepth 100000 in
theorem mX5_advices (l : Launch) (G : GT) (hG : GD G) (x1 : Int32) (μ : Mem) (r : Int32) (μ' : Mem) (hf : fX5_advices x1 μ = some (r, μ')) : Ct l yX5_advices wsX5_advices rmX5_advices G [.ref (ga G 0), .int x1] μ (some (.int r)) μ' := by
  refine Ct.of (cc := cX5_advices) (maxL := 2) (ret := (some .int)) (own := RX5) hG (by decide) rfl rfl (Nat.le_of_ble_eq_true rfl) ?_
  intro p e s m args below meth c ls H locs F hl hP hS
  have hl : lv_has ls 2 [(0, .ref (ga G 0)), (1, .int x1)] := hl
  unfold fX5_advices at hf
  refine lv_aload_n F.1.1 F.1.2.1 dX5_advices_0 rfl (lv_at hl 0 rfl) ?_
  refine gt_5_0 F hP 0 rfl inX5_advices_5 kX5_advices_12 dX5_advices_1 ?_
  refine lv_iload_n F.1.1 F.1.2.1 dX5_advices_4 rfl (lv_at hl 1 rfl) ?_
  obtain ⟨r_3, μ_1, hc_2, hf⟩ := bnd_some hf
  refine rV1 (R := rmX5_advices) (As := [.int x1]) (rest := []) F hP hS hl (mX4_layerAt l G F.2.2.2.2 1 rfl x1 _ _ _ hc_2) gX5_advices_X4_layerAt rfl hdX4_layerAt rfl rfl rfl ⟨Nat.le_of_ble_eq_true rfl, Nat.le_of_ble_eq_true rfl⟩ (by decide) rfl rfl rfl (Nat.le_of_ble_eq_true rfl) ⟨Nat.le_of_ble_eq_true rfl, Nat.le_of_ble_eq_true rfl⟩ dX5_advices_5 (fun H locs hP hS => ?_)
  refine top_o hf (fun hf => ?_) (fun i_4 ho_5 hf => ?_)
  · refine lv_ifnonnullN F.1.1 F.1.2.1 dX5_advices_8 ?_
    refine lv_iconst (v := (-1 : Int32)) F.1.1 F.1.2.1 dX5_advices_11 (by decide) ?_
    refine lv_goto (tgt := 23) F.1.1 F.1.2.1 dX5_advices_12 (by decide) ?_
    exact retI F hP hS dX5_advices_23 hf
  · have s_6 := shX4_layerAt_r rfl (ho_5 ▸ hc_2)
    refine lv_ifnonnull (tgt := 15) F.1.1 F.1.2.1 dX5_advices_8 (by decide) ?_
    refine lv_aload_n F.1.1 F.1.2.1 dX5_advices_15 rfl (lv_at hl 0 rfl) ?_
    refine lv_iload_n F.1.1 F.1.2.1 dX5_advices_16 rfl (lv_at hl 1 rfl) ?_
    refine lv_iconst (v := (2 : Int32)) F.1.1 F.1.2.1 dX5_advices_17 (by decide) ?_
    refine lv_bipush (v := (9 : Int32)) F.1.1 F.1.2.1 dX5_advices_18 (by decide) ?_
    obtain ⟨r_9, μ_7, hc_8, hf⟩ := bnd_some hf
    refine rV1 (R := rmX5_advices) (As := [.int x1, .int (2 : Int32), .int (9 : Int32)]) (rest := []) F hP hS hl (mX5_fitting l G F.2.2.2.2 x1 (2 : Int32) (9 : Int32) _ _ _ hc_8) gX5_advices_X5_fitting rfl hdX5_fitting rfl rfl rfl ⟨Nat.le_of_ble_eq_true rfl, Nat.le_of_ble_eq_true rfl⟩ (by decide) rfl rfl rfl (Nat.le_of_ble_eq_true rfl) ⟨Nat.le_of_ble_eq_true rfl, Nat.le_of_ble_eq_true rfl⟩ dX5_advices_20 (fun H locs hP hS => ?_)
    exact retI F hP hS dX5_advices_23 hf
abbrev rmX5_kinds : Room := { frames := 6, cells := 0, slots := 0, locals := 136 }
theorem hdX5_kinds : yX5_kinds.cls = RX5 ∧ yX5_kinds.cls ≠ "java/lang/invoke/MethodHandle" ∧ yX5_kinds.cls ≠ "java/lang/invoke/VarHandle" ∧ (parseMethodDescriptor yX5_kinds.desc).map (fun d => d.parameters.length) = some 1 := by decide +kernel
theorem kX5_kinds_12 : Cond.fieldLink RX5 12 "PaperLayers" "now" "LPaperLayers$Wall;" ∈ wsX5_kinds := List.mem_cons_of_mem _ (List.mem_append_left _ (List.mem_append_left _ (List.mem_append_left _ (List.mem_append_left _ (List.mem_append_left _ (List.mem_of_getElem? (i := 0) rfl))))))
theorem inX5_kinds_5 : ∀ w ∈ wsX50, w ∈ wsX5_kinds := fun _ h => List.mem_cons_of_mem _ (List.mem_append_left _ (List.mem_append_left _ (List.mem_append_left _ (List.mem_append_right _ (h)))))
set_option maxHeartbeats 4000000 in
set_option maxRecDepth 100000 in
theorem mX5_kinds (l : Launch) (G : GT) (hG : GD G) (x1 : Int32) (μ : Mem) (r : Int32) (μ' : Mem) (hf : fX5_kinds x1 μ = some (r, μ')) : Ct l yX5_kinds wsX5_kinds rmX5_kinds G [.ref (ga G 0), .int x1] μ (some (.int r)) μ' := by
  refine Ct.of (cc := cX5_kinds) (maxL := 2) (ret := (some .int)) (own := RX5) hG (by decide) rfl rfl (Nat.le_of_ble_eq_true rfl) ?_
  intro p e s m args below meth c ls H locs F hl hP hS
  have hl : lv_has ls 2 [(0, .ref (ga G 0)), (1, .int x1)] := hl
  unfold fX5_kinds at hf
  refine lv_aload_n F.1.1 F.1.2.1 dX5_kinds_0 rfl (lv_at hl 0 rfl) ?_
  refine gt_5_0 F hP 0 rfl inX5_kinds_5 kX5_kinds_12 dX5_kinds_1 ?_
  refine lv_iload_n F.1.1 F.1.2.1 dX5_kinds_4 rfl (lv_at hl 1 rfl) ?_
  obtain ⟨r_3, μ_1, hc_2, hf⟩ := bnd_some hf
  refine rV1 (R := rmX5_kinds) (As := [.int x1]) (rest := []) F hP hS hl (mX4_layerAt l G F.2.2.2.2 1 rfl x1 _ _ _ hc_2) gX5_kinds_X4_layerAt rfl hdX4_layerAt rfl rfl rfl ⟨Nat.le_of_ble_eq_true rfl, Nat.le_of_ble_eq_true rfl⟩ (by decide) rfl rfl rfl (Nat.le_of_ble_eq_true rfl) ⟨Nat.le_of_ble_eq_true rfl, Nat.le_of_ble_eq_true rfl⟩ dX5_kinds_5 (fun H locs hP hS => ?_)
  refine top_o hf (fun hf => ?_) (fun i_4 ho_5 hf => ?_)
  · refine lv_ifnonnullN F.1.1 F.1.2.1 dX5_kinds_8 ?_
    refine lv_iconst (v := (-1 : Int32)) F.1.1 F.1.2.1 dX5_kinds_11 (by decide) ?_
    refine lv_goto (tgt := 22) F.1.1 F.1.2.1 dX5_kinds_12 (by decide) ?_
    exact retI F hP hS dX5_kinds_22 hf
  · have s_6 := shX4_layerAt_r rfl (ho_5 ▸ hc_2)
    refine lv_ifnonnull (tgt := 15) F.1.1 F.1.2.1 dX5_kinds_8 (by decide) ?_
    refine lv_aload_n F.1.1 F.1.2.1 dX5_kinds_15 rfl (lv_at hl 0 rfl) ?_
    refine lv_iload_n F.1.1 F.1.2.1 dX5_kinds_16 rfl (lv_at hl 1 rfl) ?_
    refine lv_iconst (v := (0 : Int32)) F.1.1 F.1.2.1 dX5_kinds_17 (by decide) ?_
    refine lv_iconst (v := (2 : Int32)) F.1.1 F.1.2.1 dX5_kinds_18 (by decide) ?_
    obtain ⟨r_9, μ_7, hc_8, hf⟩ := bnd_some hf
    refine rV1 (R := rmX5_kinds) (As := [.int x1, .int (0 : Int32), .int (2 : Int32)]) (rest := []) F hP hS hl (mX5_fitting l G F.2.2.2.2 x1 (0 : Int32) (2 : Int32) _ _ _ hc_8) gX5_kinds_X5_fitting rfl hdX5_fitting rfl rfl rfl ⟨Nat.le_of_ble_eq_true rfl, Nat.le_of_ble_eq_true rfl⟩ (by decide) rfl rfl rfl (Nat.le_of_ble_eq_true rfl) ⟨Nat.le_of_ble_eq_true rfl, Nat.le_of_ble_eq_true rfl⟩ dX5_kinds_19 (fun H locs hP hS => ?_)
    exact retI F hP hS dX5_kinds_22 hf
abbrev rmX5_greatestShared : Room := { frames := 0, cells := 0, slots := 0, locals := 0 }
theorem hdX5_greatestShared : yX5_greatestShared.cls ≠ "java/lang/invoke/MethodHandle" ∧ yX5_greatestShared.cls ≠ "java/lang/invoke/VarHandle" ∧ (parseMethodDescriptor yX5_greatestShared.desc).map (fun d => d.parameters.length) = some 2 := by decide +kernel
set_option maxHeartbeats 4000000 in
set_option maxRecDepth 100000 in
theorem lX5_greatestShared_L2 (l : Launch) (G : GT) {p : Program} {e : Env} {s : State} {m : MethodId} {args : Array Value} {below : List Frame} {meth : Method} {c : Code} (F : Fx p s m args meth c cX5_greatestShared 3 wsX5_greatestShared RX5 (some .int) G) (x0 : Int32) (x1 : Int32) (r : Int32) (μ' : Mem) : ∀ (fuel : Nat), ∀ (x2 : Int32) (μ : Mem) (H : Heap) (locs : List Loc) (ls : Array Slot), Hh G μ H → va_S (gA G) s.heap H locs → lv_has ls 3 [(0, .int x0), (1, .int x1), (2, .int x2)] → fX5_greatestShared_L2 x0 x1 fuel x2 μ = some (r, μ') → W p l e rmX5_greatestShared s m args below meth c H locs 0 0 (MQ below (Qg G (some (.int r)) μ') args s 0 0 (gA G)) (F0 m 2 ls []) := by
  intro fuel
  induction fuel with
  | zero =>
    intro x2 μ H locs ls hP hS hl hf
    exact absurd hf (by intro h; cases h)
  | succ fuel ih2 =>
    intro x2 μ H locs ls hP hS hl hf
    have hf : sX5_greatestShared_L2 (fX5_greatestShared_L2 x0 x1 fuel) x0 x1 x2 μ = some (r, μ') := hf
    unfold sX5_greatestShared_L2 at hf
    refine lv_iload_n F.1.1 F.1.2.1 dX5_greatestShared_2 rfl (lv_at hl 2 rfl) ?_
    refine lv_iconst (v := (1 : Int32)) F.1.1 F.1.2.1 dX5_greatestShared_3 (by decide) ?_
    refine jc_le (tgt := 27) F dX5_greatestShared_4 (by decide) hf (fun hf => ?_) (fun hf => ?_)
    · refine lv_iconst (v := (1 : Int32)) F.1.1 F.1.2.1 dX5_greatestShared_27 (by decide) ?_
      exact retI F hP hS dX5_greatestShared_28 hf
    · refine lv_iload_n F.1.1 F.1.2.1 dX5_greatestShared_7 rfl (lv_at hl 0 rfl) ?_
      refine lv_iload_n F.1.1 F.1.2.1 dX5_greatestShared_8 rfl (lv_at hl 2 rfl) ?_
      refine r_rem F dX5_greatestShared_9 hf (fun hf => ?_)
      refine jz_ne (tgt := 21) F dX5_greatestShared_10 (by decide) hf (fun hf => ?_) (fun hf => ?_)
      · refine top_n hf (fun y_1 ey_1 hf => ?_)
        refine lv_iinc (v := y_1) (lv' := [(2, .int y_1), (0, .int x0), (1, .int x1)]) F.1.1 F.1.2.1 dX5_greatestShared_21 hl (k := 2) rfl ey_1 (by decide) rfl (fun ls hl => ?_)
        refine lv_goto (tgt := 2) F.1.1 F.1.2.1 dX5_greatestShared_24 (by decide) ?_
        exact ih2 y_1 μ H locs ls hP hS (lv_sub hl [1, 2, 0] rfl) hf
      · refine lv_iload_n F.1.1 F.1.2.1 dX5_greatestShared_13 rfl (lv_at hl 1 rfl) ?_
        refine lv_iload_n F.1.1 F.1.2.1 dX5_greatestShared_14 rfl (lv_at hl 2 rfl) ?_
        refine r_rem F dX5_greatestShared_15 hf (fun hf => ?_)
        refine jz_ne (tgt := 21) F dX5_greatestShared_16 (by decide) hf (fun hf => ?_) (fun hf => ?_)
        · refine top_n hf (fun y_2 ey_2 hf => ?_)
          refine lv_iinc (v := y_2) (lv' := [(2, .int y_2), (0, .int x0), (1, .int x1)]) F.1.1 F.1.2.1 dX5_greatestShared_21 hl (k := 2) rfl ey_2 (by decide) rfl (fun ls hl => ?_)
          refine lv_goto (tgt := 2) F.1.1 F.1.2.1 dX5_greatestShared_24 (by decide) ?_
          exact ih2 y_2 μ H locs ls hP hS (lv_sub hl [1, 2, 0] rfl) hf
        · refine lv_iload_n F.1.1 F.1.2.1 dX5_greatestShared_19 rfl (lv_at hl 2 rfl) ?_
          exact retI F hP hS dX5_greatestShared_20 hf
set_option maxHeartbeats 4000000 in
set_option maxRecDepth 100000 in
theorem mX5_greatestShared (l : Launch) (G : GT) (hG : GD G) (x0 : Int32) (x1 : Int32) (μ : Mem) (r : Int32) (μ' : Mem) (hf : fX5_greatestShared x0 x1 μ = some (r, μ')) : Ct l yX5_greatestShared wsX5_greatestShared rmX5_greatestShared G [.int x0, .int x1] μ (some (.int r)) μ' := by
  refine Ct.of (cc := cX5_greatestShared) (maxL := 3) (ret := (some .int)) (own := RX5) hG (by decide) rfl rfl (Nat.le_of_ble_eq_true rfl) ?_
  intro p e s m args below meth c ls H locs F hl hP hS
  have hl : lv_has ls 3 [(0, .int x0), (1, .int x1)] := hl
  unfold fX5_greatestShared at hf
  refine lv_iload_n F.1.1 F.1.2.1 dX5_greatestShared_0 rfl (lv_at hl 1 rfl) ?_
  refine lv_istore_n (lv' := [(2, .int x1), (0, .int x0), (1, .int x1)]) F.1.1 F.1.2.1 dX5_greatestShared_1 rfl hl (by decide) rfl (fun ls hl => ?_)
  exact lX5_greatestShared_L2 l G F x0 x1 _ _ FU x1 μ H locs ls hP hS (lv_sub hl [1, 2, 0] rfl) hf
abbrev rmX5_odds : Room := { frames := 2, cells := 0, slots := 0, locals := 42 }
theorem hdX5_odds : yX5_odds.cls = RX5 ∧ yX5_odds.cls ≠ "java/lang/invoke/MethodHandle" ∧ yX5_odds.cls ≠ "java/lang/invoke/VarHandle" ∧ (parseMethodDescriptor yX5_odds.desc).map (fun d => d.parameters.length) = some 2 := by decide +kernel
theorem kX5_odds_112 : Cond.fieldLink RX5 112 "PaperLayers$Wall" "damp" "I" ∈ wsX5_odds := List.mem_cons_of_mem _ (List.mem_append_left _ (List.mem_append_left _ (List.mem_append_left _ (List.mem_append_left _ (List.mem_of_getElem? (i := 2) rfl)))))
theorem kX5_odds_12 : Cond.fieldLink RX5 12 "PaperLayers" "now" "LPaperLayers$Wall;" ∈ wsX5_odds := List.mem_cons_of_mem _ (List.mem_append_left _ (List.mem_append_left _ (List.mem_append_left _ (List.mem_append_left _ (List.mem_of_getElem? (i := 0) rfl)))))
theorem kX5_odds_167 : Cond.constantLong RX5 167 (-9223372036854775808) ∈ wsX5_odds := List.mem_cons_of_mem _ (List.mem_append_left _ (List.mem_append_left _ (List.mem_append_left _ (List.mem_append_left _ (List.mem_of_getElem? (i := 1) rfl)))))
theorem inX5_odds_4 : ∀ w ∈ wsX40, w ∈ wsX5_odds := fun _ h => List.mem_cons_of_mem _ (List.mem_append_left _ (List.mem_append_right _ (h)))
theorem inX5_odds_5 : ∀ w ∈ wsX50, w ∈ wsX5_odds := fun _ h => List.mem_cons_of_mem _ (List.mem_append_left _ (List.mem_append_left _ (List.mem_append_right _ (h))))
set_option maxHeartbeats 4000000 in
set_option maxRecDepth 100000 in
theorem lX5_odds_L32 (l : Launch) (G : GT) {p : Program} {e : Env} {s : State} {m : MethodId} {args : Array Value} {below : List Frame} {meth : Method} {c : Code} (F : Fx p s m args meth c cX5_odds 6 wsX5_odds RX5 (some .long) G) (x1 : Int32) (x2 : Int32) (x3 : Int32) (r : Int64) (μ' : Mem) : ∀ (fuel : Nat), ∀ (x4 : Int32) (x5 : Int32) (μ : Mem) (H : Heap) (locs : List Loc) (ls : Array Slot), Hh G μ H → va_S (gA G) s.heap H locs → lv_has ls 6 [(0, .ref (ga G 0)), (1, .int x1), (2, .int x2), (3, .int x3), (4, .int x4), (5, .int x5)] → fX5_odds_L32 x1 x2 x3 fuel x4 x5 μ = some (r, μ') → W p l e rmX5_odds s m args below meth c H locs 0 0 (MQ below (Qg G (some (.long r)) μ') args s 0 0 (gA G)) (F0 m 32 ls []) := by
  intro fuel
  induction fuel with
  | zero =>
    intro x4 x5 μ H locs ls hP hS hl hf
    exact absurd hf (by intro h; cases h)
  | succ fuel ih32 =>
    intro x4 x5 μ H locs ls hP hS hl hf
    have hf : sX5_odds_L32 (fX5_odds_L32 x1 x2 x3 fuel) x1 x2 x3 x4 x5 μ = some (r, μ') := hf
    unfold sX5_odds_L32 at hf
    refine lv_iload F.1.1 F.1.2.1 dX5_odds_32 (lv_at hl 5 rfl) ?_
    refine lv_bipush (v := (20 : Int32)) F.1.1 F.1.2.1 dX5_odds_34 (by decide) ?_
    refine jc_gt (tgt := 69) F dX5_odds_36 (by decide) hf (fun hf => ?_) (fun hf => ?_)
    · refine lv_iload F.1.1 F.1.2.1 dX5_odds_69 (lv_at hl 4 rfl) ?_
      refine lv_iload_n F.1.1 F.1.2.1 dX5_odds_71 rfl (lv_at hl 3 rfl) ?_
      obtain ⟨r_12, μ_10, hc_11, hf⟩ := bnd_some hf
      refine rS1 (R := rmX5_odds) (As := [.int x4, .int x3]) (rest := []) F hP hS hl (mX5_greatestShared l G F.2.2.2.2 x4 x3 _ _ _ hc_11) gX5_odds_X5_greatestShared hdX5_greatestShared rfl rfl rfl ⟨Nat.le_of_ble_eq_true rfl, Nat.le_of_ble_eq_true rfl⟩ rfl rfl (Nat.le_of_ble_eq_true rfl) ⟨Nat.le_of_ble_eq_true rfl, Nat.le_of_ble_eq_true rfl⟩ dX5_odds_72 (fun H locs hP hS => ?_)
      refine lv_istore (lv' := [(5, .int r_12), (0, .ref (ga G 0)), (1, .int x1), (2, .int x2), (3, .int x3), (4, .int x4)]) F.1.1 F.1.2.1 dX5_odds_75 hl (by decide) rfl (fun ls hl => ?_)
      refine lv_iload_n F.1.1 F.1.2.1 dX5_odds_77 rfl (lv_at hl 3 rfl) ?_
      refine jz_ne (tgt := 90) F dX5_odds_78 (by decide) hf (fun hf => ?_) (fun hf => ?_)
      · refine lv_iload_n F.1.1 F.1.2.1 dX5_odds_90 rfl (lv_at hl 4 rfl) ?_
        refine lv_iload F.1.1 F.1.2.1 dX5_odds_91 (lv_at hl 0 rfl) ?_
        refine r_div F dX5_odds_93 hf (fun hf => ?_)
        refine lv_i2l F.1.1 F.1.2.1 dX5_odds_94 rfl ?_
        exact retL F hP hS dX5_odds_95 hf
      · refine lv_iload F.1.1 F.1.2.1 dX5_odds_81 (lv_at hl 5 rfl) ?_
        refine lv_iload F.1.1 F.1.2.1 dX5_odds_83 (lv_at hl 0 rfl) ?_
        refine r_div F dX5_odds_85 hf (fun hf => ?_)
        refine lv_i2l F.1.1 F.1.2.1 dX5_odds_86 rfl ?_
        refine lv_goto (tgt := 95) F.1.1 F.1.2.1 dX5_odds_87 (by decide) ?_
        exact retL F hP hS dX5_odds_95 hf
    · refine lv_iload_n F.1.1 F.1.2.1 dX5_odds_39 rfl (lv_at hl 1 rfl) ?_
      refine lv_aload_n F.1.1 F.1.2.1 dX5_odds_40 rfl (lv_at hl 0 rfl) ?_
      refine gt_5_0 F hP 0 rfl inX5_odds_5 kX5_odds_12 dX5_odds_41 ?_
      refine lv_iload F.1.1 F.1.2.1 dX5_odds_44 (lv_at hl 5 rfl) ?_
      refine lv_aload_n F.1.1 F.1.2.1 dX5_odds_46 rfl (lv_at hl 0 rfl) ?_
      refine gt_5_0 F hP 0 rfl inX5_odds_5 kX5_odds_12 dX5_odds_47 ?_
      refine gt_4_3 F hP 1 rfl inX5_odds_4 kX5_odds_112 dX5_odds_50 ?_
      refine lv_isub F.1.1 F.1.2.1 dX5_odds_53 ?_
      obtain ⟨r_15, μ_13, hc_14, hf⟩ := bnd_some hf
      refine rV1 (R := rmX5_odds) (As := [.int (x5 - (μ 1 3))]) (rest := [.int x1]) F hP hS hl (mX4_heardBy l G F.2.2.2.2 1 rfl (x5 - (μ 1 3)) _ _ _ hc_14) gX5_odds_X4_heardBy rfl hdX4_heardBy rfl rfl rfl ⟨Nat.le_of_ble_eq_true rfl, Nat.le_of_ble_eq_true rfl⟩ (by decide) rfl rfl rfl (Nat.le_of_ble_eq_true rfl) ⟨Nat.le_of_ble_eq_true rfl, Nat.le_of_ble_eq_true rfl⟩ dX5_odds_54 (fun H locs hP hS => ?_)
      refine jc_ge (tgt := 63) F dX5_odds_57 (by decide) hf (fun hf => ?_) (fun hf => ?_)
      · refine top_n hf (fun y_16 ey_16 hf => ?_)
        refine lv_iinc (v := y_16) (lv' := [(5, .int y_16), (0, .ref (ga G 0)), (1, .int x1), (2, .int x2), (3, .int x3), (4, .int x4)]) F.1.1 F.1.2.1 dX5_odds_63 hl (k := 5) rfl ey_16 (by decide) rfl (fun ls hl => ?_)
        refine lv_goto (tgt := 32) F.1.1 F.1.2.1 dX5_odds_66 (by decide) ?_
        exact ih32 x4 y_16 μ_13 H locs ls hP hS (lv_sub hl [1, 2, 3, 4, 5, 0] rfl) hf
      · refine top_n hf (fun y_17 ey_17 hf => ?_)
        refine lv_iinc (v := y_17) (lv' := [(4, .int y_17), (0, .ref (ga G 0)), (1, .int x1), (2, .int x2), (3, .int x3), (5, .int x5)]) F.1.1 F.1.2.1 dX5_odds_60 hl (k := 4) rfl ey_17 (by decide) rfl (fun ls hl => ?_)
        refine top_n hf (fun y_18 ey_18 hf => ?_)
        refine lv_iinc (v := y_18) (lv' := [(5, .int y_18), (4, .int y_17), (0, .ref (ga G 0)), (1, .int x1), (2, .int x2), (3, .int x3)]) F.1.1 F.1.2.1 dX5_odds_63 hl (k := 5) rfl ey_18 (by decide) rfl (fun ls hl => ?_)
        refine lv_goto (tgt := 32) F.1.1 F.1.2.1 dX5_odds_66 (by decide) ?_
        exact ih32 y_17 y_18 μ_13 H locs ls hP hS (lv_sub hl [2, 3, 4, 5, 1, 0] rfl) hf
set_option maxHeartbeats 4000000 in
set_option maxRecDepth 100000 in
theorem mX5_odds (l : Launch) (G : GT) (hG : GD G) (x1 : Int32) (x2 : Int32) (μ : Mem) (r : Int64) (μ' : Mem) (hf : fX5_odds x1 x2 μ = some (r, μ')) : Ct l yX5_odds wsX5_odds rmX5_odds G [.ref (ga G 0), .int x1, .int x2] μ (some (.long r)) μ' := by
  refine Ct.of (cc := cX5_odds) (maxL := 6) (ret := (some .long)) (own := RX5) hG (by decide) rfl rfl (Nat.le_of_ble_eq_true rfl) ?_
  intro p e s m args below meth c ls H locs F hl hP hS
  have hl : lv_has ls 6 [(0, .ref (ga G 0)), (1, .int x1), (2, .int x2)] := hl
  unfold fX5_odds at hf
  refine lv_aload_n F.1.1 F.1.2.1 dX5_odds_0 rfl (lv_at hl 0 rfl) ?_
  refine gt_5_0 F hP 0 rfl inX5_odds_5 kX5_odds_12 dX5_odds_1 ?_
  refine lv_iload_n F.1.1 F.1.2.1 dX5_odds_4 rfl (lv_at hl 1 rfl) ?_
  obtain ⟨r_3, μ_1, hc_2, hf⟩ := bnd_some hf
  refine rV1 (R := rmX5_odds) (As := [.int x1]) (rest := []) F hP hS hl (mX4_layerAt l G F.2.2.2.2 1 rfl x1 _ _ _ hc_2) gX5_odds_X4_layerAt rfl hdX4_layerAt rfl rfl rfl ⟨Nat.le_of_ble_eq_true rfl, Nat.le_of_ble_eq_true rfl⟩ (by decide) rfl rfl rfl (Nat.le_of_ble_eq_true rfl) ⟨Nat.le_of_ble_eq_true rfl, Nat.le_of_ble_eq_true rfl⟩ dX5_odds_5 (fun H locs hP hS => ?_)
  refine top_o hf (fun hf => ?_) (fun i_4 ho_5 hf => ?_)
  · refine lv_ifnullN (tgt := 19) F.1.1 F.1.2.1 dX5_odds_8 (by decide) ?_
    refine lv_ldc2 (v := (-9223372036854775808 : Int64)) F.1.1 F.1.2.1 F.1.2.2.2.1 (F.1.2.2.2.2 _ kX5_odds_167) dX5_odds_19 ?_
    exact retL F hP hS dX5_odds_22 hf
  · have s_6 := shX4_layerAt_r rfl (ho_5 ▸ hc_2)
    refine lv_ifnull F.1.1 F.1.2.1 dX5_odds_8 ?_
    refine lv_iload_n F.1.1 F.1.2.1 dX5_odds_11 rfl (lv_at hl 2 rfl) ?_
    refine lv_iconst (v := (1 : Int32)) F.1.1 F.1.2.1 dX5_odds_12 (by decide) ?_
    obtain ⟨r_9, μ_7, hc_8, hf⟩ := bnd_some hf
    refine rS1 (R := rmX5_odds) (As := [.int x2, .int (1 : Int32)]) (rest := []) F hP hS hl (mX5_isUpTo l G F.2.2.2.2 x2 (1 : Int32) _ _ _ hc_8) gX5_odds_X5_isUpTo hdX5_isUpTo rfl rfl rfl ⟨Nat.le_of_ble_eq_true rfl, Nat.le_of_ble_eq_true rfl⟩ rfl rfl (Nat.le_of_ble_eq_true rfl) ⟨Nat.le_of_ble_eq_true rfl, Nat.le_of_ble_eq_true rfl⟩ dX5_odds_13 (fun H locs hP hS => ?_)
    refine jz_ne (tgt := 23) F dX5_odds_16 (by decide) hf (fun hf => ?_) (fun hf => ?_)
    · refine lv_bipush (v := (21 : Int32)) F.1.1 F.1.2.1 dX5_odds_23 (by decide) ?_
      refine lv_istore_n (lv' := [(3, .int (21 : Int32)), (0, .ref (ga G 0)), (1, .int x1), (2, .int x2)]) F.1.1 F.1.2.1 dX5_odds_25 rfl hl (by decide) rfl (fun ls hl => ?_)
      refine lv_iconst (v := (0 : Int32)) F.1.1 F.1.2.1 dX5_odds_26 (by decide) ?_
      refine lv_istore (lv' := [(4, .int (0 : Int32)), (3, .int (21 : Int32)), (0, .ref (ga G 0)), (1, .int x1), (2, .int x2)]) F.1.1 F.1.2.1 dX5_odds_27 hl (by decide) rfl (fun ls hl => ?_)
      refine lv_iconst (v := (0 : Int32)) F.1.1 F.1.2.1 dX5_odds_29 (by decide) ?_
      refine lv_istore (lv' := [(5, .int (0 : Int32)), (4, .int (0 : Int32)), (3, .int (21 : Int32)), (0, .ref (ga G 0)), (1, .int x1), (2, .int x2)]) F.1.1 F.1.2.1 dX5_odds_30 hl (by decide) rfl (fun ls hl => ?_)
      exact lX5_odds_L32 l G F x1 x2 (21 : Int32) _ _ FU (0 : Int32) (0 : Int32) μ_7 H locs ls hP hS (lv_sub hl [3, 4, 5, 2, 1, 0] rfl) hf
    · refine lv_ldc2 (v := (-9223372036854775808 : Int64)) F.1.1 F.1.2.1 F.1.2.2.2.1 (F.1.2.2.2.2 _ kX5_odds_167) dX5_odds_19 ?_
      exact retL F hP hS dX5_odds_22 hf
abbrev rmX3_begin : Room := { frames := 1, cells := 0, slots := 0, locals := 21 }
theorem hdX3_begin : yX3_begin.cls = RX3 ∧ yX3_begin.cls ≠ "java/lang/invoke/MethodHandle" ∧ yX3_begin.cls ≠ "java/lang/invoke/VarHandle" ∧ (parseMethodDescriptor yX3_begin.desc).map (fun d => d.parameters.length) = some 2 := by decide +kernel
theorem kX3_begin_15 : Cond.fieldLink RX3 15 "PaperLayers$Sheet" "hasRow" "Z" ∈ wsX3_begin := List.mem_cons_of_mem _ (List.mem_append_left _ (List.mem_of_getElem? (i := 0) rfl))
theorem kX3_begin_19 : Cond.fieldLink RX3 19 "PaperLayers$Sheet" "lane" "I" ∈ wsX3_begin := List.mem_cons_of_mem _ (List.mem_append_left _ (List.mem_of_getElem? (i := 1) rfl))
theorem kX3_begin_23 : Cond.methodLink RX3 23 Lib.Math.max.name ∈ wsX3_begin := List.mem_cons_of_mem _ (List.mem_append_left _ (List.mem_of_getElem? (i := 2) rfl))
theorem kX3_begin_29 : Cond.methodLink RX3 29 Lib.Math.min.name ∈ wsX3_begin := List.mem_cons_of_mem _ (List.mem_append_left _ (List.mem_of_getElem? (i := 6) rfl))
theorem kX3_begin_32 : Cond.fieldLink RX3 32 "PaperLayers$Sheet" "length" "I" ∈ wsX3_begin := List.mem_cons_of_mem _ (List.mem_append_left _ (List.mem_of_getElem? (i := 9) rfl))
theorem kX3_begin_9 : Cond.fieldLink RX3 9 "PaperLayers$Sheet" "cells" "[I" ∈ wsX3_begin := List.mem_cons_of_mem _ (List.mem_append_left _ (List.mem_of_getElem? (i := 10) rfl))
theorem kX3_begin_cdmax : Cond.code Lib.Math.max.name Lib.Math.max.code 2 (some .int) ∈ wsX3_begin := List.mem_cons_of_mem _ (List.mem_append_left _ (List.mem_of_getElem? (i := 5) rfl))
theorem kX3_begin_cdmin : Cond.code Lib.Math.min.name Lib.Math.min.code 2 (some .int) ∈ wsX3_begin := List.mem_cons_of_mem _ (List.mem_append_left _ (List.mem_of_getElem? (i := 8) rfl))
theorem kX3_begin_inM : Cond.initialized "java/lang/Math" ∈ wsX3_begin := List.mem_cons_of_mem _ (List.mem_append_left _ (List.mem_of_getElem? (i := 4) rfl))
theorem kX3_begin_stmax : Cond.static Lib.Math.max.name ∈ wsX3_begin := List.mem_cons_of_mem _ (List.mem_append_left _ (List.mem_of_getElem? (i := 3) rfl))
theorem kX3_begin_stmin : Cond.static Lib.Math.min.name ∈ wsX3_begin := List.mem_cons_of_mem _ (List.mem_append_left _ (List.mem_of_getElem? (i := 7) rfl))
theorem inX3_begin_3 : ∀ w ∈ wsX30, w ∈ wsX3_begin := fun _ h => List.mem_cons_of_mem _ (List.mem_append_right _ (h))
set_option maxHeartbeats 4000000 in
set_option maxRecDepth 100000 in
theorem lX3_begin_L26 (l : Launch) (G : GT) {p : Program} {e : Env} {s : State} {m : MethodId} {args : Array Value} {below : List Frame} {meth : Method} {c : Code} (F : Fx p s m args meth c cX3_begin 4 wsX3_begin RX3 none G) (t : Nat) (st : sh t = 3) (r : Unit) (μ' : Mem) : ∀ (fuel : Nat), ∀ (x3 : Int32) (μ : Mem) (H : Heap) (locs : List Loc) (ls : Array Slot), Hh G μ H → va_S (gA G) s.heap H locs → lv_has ls 4 [(0, .ref (ga G t)), (3, .int x3)] → fX3_begin_L26 t fuel x3 μ = some (r, μ') → W p l e rmX3_begin s m args below meth c H locs 0 0 (MQ below (Qg G none μ') args s 0 0 (gA G)) (F0 m 26 ls []) := by
  intro fuel
  induction fuel with
  | zero =>
    intro x3 μ H locs ls hP hS hl hf
    exact absurd hf (by intro h; cases h)
  | succ fuel ih26 =>
    intro x3 μ H locs ls hP hS hl hf
    have hf : sX3_begin_L26 (fX3_begin_L26 t fuel) t x3 μ = some (r, μ') := hf
    unfold sX3_begin_L26 at hf
    refine lv_iload_n F.1.1 F.1.2.1 dX3_begin_26 rfl (lv_at hl 1 rfl) ?_
    refine lv_bipush (v := (60 : Int32)) F.1.1 F.1.2.1 dX3_begin_27 (by decide) ?_
    refine jc_ge (tgt := 45) F dX3_begin_29 (by decide) hf (fun hf => ?_) (fun hf => ?_)
    · exact retV F hP hS dX3_begin_45 hf
    · refine lv_aload_n F.1.1 F.1.2.1 dX3_begin_32 rfl (lv_at hl 0 rfl) ?_
      refine gt_3_0 F hP t st inX3_begin_3 kX3_begin_9 dX3_begin_33 (fun s_4 n_5 => ?_)
      refine lv_iload_n F.1.1 F.1.2.1 dX3_begin_36 rfl (lv_at hl 1 rfl) ?_
      refine lv_iconst (v := (0 : Int32)) F.1.1 F.1.2.1 dX3_begin_37 (by decide) ?_
      refine r_ias F hP hS (t + 4) s_4 n_5 dX3_begin_38 hf (fun μ_6 H locs hP hS hf => ?_)
      refine top_n hf (fun y_7 ey_7 hf => ?_)
      refine lv_iinc (v := y_7) (lv' := [(3, .int y_7), (0, .ref (ga G t))]) F.1.1 F.1.2.1 dX3_begin_39 hl (k := 1) rfl ey_7 (by decide) rfl (fun ls hl => ?_)
      refine lv_goto (tgt := 26) F.1.1 F.1.2.1 dX3_begin_42 (by decide) ?_
      exact ih26 y_7 μ_6 H locs ls hP hS (lv_sub hl [1, 0] rfl) hf
set_option maxHeartbeats 4000000 in
set_option maxRecDepth 100000 in
theorem mX3_begin (l : Launch) (G : GT) (hG : GD G) (t : Nat) (st : sh t = 3) (x1 : Int32) (x2 : Int32) (μ : Mem) (r : Unit) (μ' : Mem) (hf : fX3_begin t x1 x2 μ = some (r, μ')) : Ct l yX3_begin wsX3_begin rmX3_begin G [.ref (ga G t), .int x1, .int x2] μ none μ' := by
  refine Ct.of (cc := cX3_begin) (maxL := 4) (ret := none) (own := RX3) hG (by decide) rfl rfl (Nat.le_of_ble_eq_true rfl) ?_
  intro p e s m args below meth c ls H locs F hl hP hS
  have hl : lv_has ls 4 [(0, .ref (ga G t)), (1, .int x1), (2, .int x2)] := hl
  unfold fX3_begin at hf
  refine lv_aload_n F.1.1 F.1.2.1 dX3_begin_0 rfl (lv_at hl 0 rfl) ?_
  refine lv_iconst (v := (1 : Int32)) F.1.1 F.1.2.1 dX3_begin_1 (by decide) ?_
  refine pt_3_1 F hP hS t st inX3_begin_3 kX3_begin_15 rfl rfl dX3_begin_2 hf (fun μ_1 H locs hP hS hf => ?_)
  refine lv_aload_n F.1.1 F.1.2.1 dX3_begin_5 rfl (lv_at hl 0 rfl) ?_
  refine lv_iload_n F.1.1 F.1.2.1 dX3_begin_6 rfl (lv_at hl 1 rfl) ?_
  refine pt_3_2 F hP hS t st inX3_begin_3 kX3_begin_19 dX3_begin_7 hf (fun μ_2 H locs hP hS hf => ?_)
  refine lv_aload_n F.1.1 F.1.2.1 dX3_begin_10 rfl (lv_at hl 0 rfl) ?_
  refine lv_iload_n F.1.1 F.1.2.1 dX3_begin_11 rfl (lv_at hl 2 rfl) ?_
  refine lv_iconst (v := (0 : Int32)) F.1.1 F.1.2.1 dX3_begin_12 (by decide) ?_
  refine va_mmax (R := rmX3_begin) F.1.1 F.1.2.1 (F.1.2.2.1.trans hl.1.symm) F.1.2.2.2.1 (F.1.2.2.2.2 _ kX3_begin_23) (F.1.2.2.2.2 _ kX3_begin_stmax) (F.1.2.2.2.2 _ kX3_begin_inM) (F.1.2.2.2.2 _ kX3_begin_cdmax) (Nat.le_of_ble_eq_true rfl) (Nat.le_of_ble_eq_true rfl) (Nat.le_of_ble_eq_true rfl) (Nat.le_of_ble_eq_true rfl) dX3_begin_13 ?_
  refine lv_bipush (v := (60 : Int32)) F.1.1 F.1.2.1 dX3_begin_16 (by decide) ?_
  refine va_mmin (R := rmX3_begin) F.1.1 F.1.2.1 (F.1.2.2.1.trans hl.1.symm) F.1.2.2.2.1 (F.1.2.2.2.2 _ kX3_begin_29) (F.1.2.2.2.2 _ kX3_begin_stmin) (F.1.2.2.2.2 _ kX3_begin_inM) (F.1.2.2.2.2 _ kX3_begin_cdmin) (Nat.le_of_ble_eq_true rfl) (Nat.le_of_ble_eq_true rfl) (Nat.le_of_ble_eq_true rfl) (Nat.le_of_ble_eq_true rfl) dX3_begin_18 ?_
  refine pt_3_3 F hP hS t st inX3_begin_3 kX3_begin_32 dX3_begin_21 hf (fun μ_3 H locs hP hS hf => ?_)
  refine lv_iconst (v := (0 : Int32)) F.1.1 F.1.2.1 dX3_begin_24 (by decide) ?_
  refine lv_istore_n (lv' := [(3, .int (0 : Int32)), (0, .ref (ga G t)), (1, .int x1), (2, .int x2)]) F.1.1 F.1.2.1 dX3_begin_25 rfl hl (by decide) rfl (fun ls hl => ?_)
  exact lX3_begin_L26 l G F t st _ _ FU (0 : Int32) μ_3 H locs ls hP hS (lv_sub hl [1, 0] rfl) hf
abbrev rmX5_sheet : Room := { frames := 2, cells := 0, slots := 0, locals := 44 }
theorem hdX5_sheet : yX5_sheet.cls = RX5 ∧ yX5_sheet.cls ≠ "java/lang/invoke/MethodHandle" ∧ yX5_sheet.cls ≠ "java/lang/invoke/VarHandle" ∧ (parseMethodDescriptor yX5_sheet.desc).map (fun d => d.parameters.length) = some 3 := by decide +kernel
theorem kX5_sheet_42 : Cond.fieldLink RX5 42 "PaperLayers" "latestFault" "I" ∈ wsX5_sheet := List.mem_cons_of_mem _ (List.mem_append_left _ (List.mem_append_left _ (List.mem_append_left _ (List.mem_of_getElem? (i := 0) rfl))))
theorem inX5_sheet_5 : ∀ w ∈ wsX50, w ∈ wsX5_sheet := fun _ h => List.mem_cons_of_mem _ (List.mem_append_left _ (List.mem_append_right _ (h)))
set_option maxHeartbeats 4000000 in
set_option maxRecDepth 100000 in
theorem mX5_sheet (l : Launch) (G : GT) (hG : GD G) (x1 : Int32) (x2 : Int32) (x3 : Int32) (μ : Mem) (r : Int32) (μ' : Mem) (hf : fX5_sheet x1 x2 x3 μ = some (r, μ')) : Ct l yX5_sheet wsX5_sheet rmX5_sheet G [.ref (ga G 0), .int x1, .int x2, .int x3] μ (some (.int r)) μ' := by
  refine Ct.of (cc := cX5_sheet) (maxL := 5) (ret := (some .int)) (own := RX5) hG (by decide) rfl rfl (Nat.le_of_ble_eq_true rfl) ?_
  intro p e s m args below meth c ls H locs F hl hP hS
  have hl : lv_has ls 5 [(0, .ref (ga G 0)), (1, .int x1), (2, .int x2), (3, .int x3)] := hl
  unfold fX5_sheet at hf
  refine lv_aload_n F.1.1 F.1.2.1 dX5_sheet_0 rfl (lv_at hl 0 rfl) ?_
  refine lv_iconst (v := (0 : Int32)) F.1.1 F.1.2.1 dX5_sheet_1 (by decide) ?_
  refine pt_5_6 F hP hS 0 rfl inX5_sheet_5 kX5_sheet_42 dX5_sheet_2 hf (fun μ_1 H locs hP hS hf => ?_)
  refine lv_aload_n F.1.1 F.1.2.1 dX5_sheet_5 rfl (lv_at hl 0 rfl) ?_
  refine lv_iload_n F.1.1 F.1.2.1 dX5_sheet_6 rfl (lv_at hl 1 rfl) ?_
  obtain ⟨r_4, μ_2, hc_3, hf⟩ := bnd_some hf
  refine rV1 (R := rmX5_sheet) (As := [.int x1]) (rest := []) F hP hS hl (mX5_sheetAt l G F.2.2.2.2 x1 _ _ _ hc_3) gX5_sheet_X5_sheetAt rfl hdX5_sheetAt rfl rfl rfl ⟨Nat.le_of_ble_eq_true rfl, Nat.le_of_ble_eq_true rfl⟩ (by decide) rfl rfl rfl (Nat.le_of_ble_eq_true rfl) ⟨Nat.le_of_ble_eq_true rfl, Nat.le_of_ble_eq_true rfl⟩ dX5_sheet_7 (fun H locs hP hS => ?_)
  refine top_o hf (fun hf => ?_) (fun i_5 ho_6 hf => ?_)
  · refine lv_astoreN (lv' := [(4, .null), (0, .ref (ga G 0)), (1, .int x1), (2, .int x2), (3, .int x3)]) F.1.1 F.1.2.1 dX5_sheet_10 hl (by decide) rfl (fun ls hl => ?_)
    refine lv_aloadN F.1.1 F.1.2.1 dX5_sheet_12 (lv_at hl 0 rfl) ?_
    refine lv_ifnonnullN F.1.1 F.1.2.1 dX5_sheet_14 ?_
    refine lv_iconst (v := (-1 : Int32)) F.1.1 F.1.2.1 dX5_sheet_17 (by decide) ?_
    exact retI F hP hS dX5_sheet_18 hf
  · have s_7 := shX5_sheetAt_r (ho_6 ▸ hc_3)
    refine lv_astore (lv' := [(4, .ref (ga G i_5)), (0, .ref (ga G 0)), (1, .int x1), (2, .int x2), (3, .int x3)]) F.1.1 F.1.2.1 dX5_sheet_10 hl (by decide) rfl (fun ls hl => ?_)
    refine lv_aload F.1.1 F.1.2.1 dX5_sheet_12 (lv_at hl 0 rfl) ?_
    refine lv_ifnonnull (tgt := 19) F.1.1 F.1.2.1 dX5_sheet_14 (by decide) ?_
    refine lv_iload_n F.1.1 F.1.2.1 dX5_sheet_19 rfl (lv_at hl 3 rfl) ?_
    refine lv_iconst (v := (2 : Int32)) F.1.1 F.1.2.1 dX5_sheet_20 (by decide) ?_
    obtain ⟨r_10, μ_8, hc_9, hf⟩ := bnd_some hf
    refine rS1 (R := rmX5_sheet) (As := [.int x2, .int (2 : Int32)]) (rest := []) F hP hS hl (mX5_isUpTo l G F.2.2.2.2 x2 (2 : Int32) _ _ _ hc_9) gX5_sheet_X5_isUpTo hdX5_isUpTo rfl rfl rfl ⟨Nat.le_of_ble_eq_true rfl, Nat.le_of_ble_eq_true rfl⟩ rfl rfl (Nat.le_of_ble_eq_true rfl) ⟨Nat.le_of_ble_eq_true rfl, Nat.le_of_ble_eq_true rfl⟩ dX5_sheet_21 (fun H locs hP hS => ?_)
    refine jz_eq (tgt := 33) F dX5_sheet_24 (by decide) hf (fun hf => ?_) (fun hf => ?_)
    · refine lv_bipush (v := (-2 : Int32)) F.1.1 F.1.2.1 dX5_sheet_33 (by decide) ?_
      exact retI F hP hS dX5_sheet_35 hf
    · refine lv_iload_n F.1.1 F.1.2.1 dX5_sheet_27 rfl (lv_at hl 4 rfl) ?_
      refine lv_bipush (v := (60 : Int32)) F.1.1 F.1.2.1 dX5_sheet_28 (by decide) ?_
      refine jc_le (tgt := 36) F dX5_sheet_30 (by decide) hf (fun hf => ?_) (fun hf => ?_)
      · refine lv_iload_n F.1.1 F.1.2.1 dX5_sheet_36 rfl (lv_at hl 4 rfl) ?_
        refine jz_ge (tgt := 46) F dX5_sheet_37 (by decide) hf (fun hf => ?_) (fun hf => ?_)
        · refine lv_aload F.1.1 F.1.2.1 dX5_sheet_46 (lv_at hl 0 rfl) ?_
          refine lv_iload_n F.1.1 F.1.2.1 dX5_sheet_48 rfl (lv_at hl 3 rfl) ?_
          refine lv_iload_n F.1.1 F.1.2.1 dX5_sheet_49 rfl (lv_at hl 4 rfl) ?_
          obtain ⟨u_13, μ_11, hc_12, hf⟩ := bnd_some hf
          refine rVv (R := rmX5_sheet) (As := [.int x2, .int x3]) (rest := []) F hP hS hl (mX3_begin l G F.2.2.2.2 i_5 s_7 x2 x3 _ _ _ hc_12) gX5_sheet_X3_begin s_7 hdX3_begin rfl rfl rfl ⟨Nat.le_of_ble_eq_true rfl, Nat.le_of_ble_eq_true rfl⟩ (by decide) rfl rfl rfl (Nat.le_of_ble_eq_true rfl) ⟨Nat.le_of_ble_eq_true rfl, Nat.le_of_ble_eq_true rfl⟩ dX5_sheet_50 (fun H locs hP hS => ?_)
          refine lv_iconst (v := (1 : Int32)) F.1.1 F.1.2.1 dX5_sheet_53 (by decide) ?_
          exact retI F hP hS dX5_sheet_54 hf
        · refine lv_aload_n F.1.1 F.1.2.1 dX5_sheet_40 rfl (lv_at hl 1 rfl) ?_
          refine lv_iconst (v := (4 : Int32)) F.1.1 F.1.2.1 dX5_sheet_41 (by decide) ?_
          obtain ⟨r_16, μ_14, hc_15, hf⟩ := bnd_some hf
          refine rV1 (R := rmX5_sheet) (As := [.int (4 : Int32)]) (rest := []) F hP hS hl (mX5_failed l G F.2.2.2.2 (4 : Int32) _ _ _ hc_15) gX5_sheet_X5_failed rfl hdX5_failed rfl rfl rfl ⟨Nat.le_of_ble_eq_true rfl, Nat.le_of_ble_eq_true rfl⟩ (by decide) rfl rfl rfl (Nat.le_of_ble_eq_true rfl) ⟨Nat.le_of_ble_eq_true rfl, Nat.le_of_ble_eq_true rfl⟩ dX5_sheet_42 (fun H locs hP hS => ?_)
          exact retI F hP hS dX5_sheet_45 hf
      · refine lv_bipush (v := (-2 : Int32)) F.1.1 F.1.2.1 dX5_sheet_33 (by decide) ?_
        exact retI F hP hS dX5_sheet_35 hf
abbrev rmX5_lose : Room := { frames := 2, cells := 0, slots := 0, locals := 42 }
theorem hdX5_lose : yX5_lose.cls = RX5 ∧ yX5_lose.cls ≠ "java/lang/invoke/MethodHandle" ∧ yX5_lose.cls ≠ "java/lang/invoke/VarHandle" ∧ (parseMethodDescriptor yX5_lose.desc).map (fun d => d.parameters.length) = some 1 := by decide +kernel
theorem kX5_lose_176 : Cond.fieldLink RX5 176 "PaperLayers$Sheet" "hasRow" "Z" ∈ wsX5_lose := List.mem_cons_of_mem _ (List.mem_append_left _ (List.mem_append_left _ (List.mem_of_getElem? (i := 0) rfl)))
theorem inX5_lose_3 : ∀ w ∈ wsX30, w ∈ wsX5_lose := fun _ h => List.mem_cons_of_mem _ (List.mem_append_left _ (List.mem_append_right _ (h)))
set_option maxHeartbeats 4000000 in
set_option maxRecDepth 100000 in
theorem mX5_lose (l : Launch) (G : GT) (hG : GD G) (x1 : Int32) (μ : Mem) (r : Int32) (μ' : Mem) (hf : fX5_lose x1 μ = some (r, μ')) : Ct l yX5_lose wsX5_lose rmX5_lose G [.ref (ga G 0), .int x1] μ (some (.int r)) μ' := by
  refine Ct.of (cc := cX5_lose) (maxL := 4) (ret := (some .int)) (own := RX5) hG (by decide) rfl rfl (Nat.le_of_ble_eq_true rfl) ?_
  intro p e s m args below meth c ls H locs F hl hP hS
  have hl : lv_has ls 4 [(0, .ref (ga G 0)), (1, .int x1)] := hl
  unfold fX5_lose at hf
  refine lv_aload_n F.1.1 F.1.2.1 dX5_lose_0 rfl (lv_at hl 0 rfl) ?_
  refine lv_iload_n F.1.1 F.1.2.1 dX5_lose_1 rfl (lv_at hl 1 rfl) ?_
  obtain ⟨r_3, μ_1, hc_2, hf⟩ := bnd_some hf
  refine rV1 (R := rmX5_lose) (As := [.int x1]) (rest := []) F hP hS hl (mX5_sheetAt l G F.2.2.2.2 x1 _ _ _ hc_2) gX5_lose_X5_sheetAt rfl hdX5_sheetAt rfl rfl rfl ⟨Nat.le_of_ble_eq_true rfl, Nat.le_of_ble_eq_true rfl⟩ (by decide) rfl rfl rfl (Nat.le_of_ble_eq_true rfl) ⟨Nat.le_of_ble_eq_true rfl, Nat.le_of_ble_eq_true rfl⟩ dX5_lose_2 (fun H locs hP hS => ?_)
  refine top_o hf (fun hf => ?_) (fun i_4 ho_5 hf => ?_)
  · refine lv_astore_nN (lv' := [(2, .null), (0, .ref (ga G 0)), (1, .int x1)]) F.1.1 F.1.2.1 dX5_lose_5 rfl hl (by decide) rfl (fun ls hl => ?_)
    refine lv_aload_nN F.1.1 F.1.2.1 dX5_lose_6 rfl (lv_at hl 0 rfl) ?_
    refine lv_ifnonnullN F.1.1 F.1.2.1 dX5_lose_7 ?_
    refine lv_iconst (v := (-1 : Int32)) F.1.1 F.1.2.1 dX5_lose_10 (by decide) ?_
    exact retI F hP hS dX5_lose_11 hf
  · have s_6 := shX5_sheetAt_r (ho_5 ▸ hc_2)
    refine lv_astore_n (lv' := [(2, .ref (ga G i_4)), (0, .ref (ga G 0)), (1, .int x1)]) F.1.1 F.1.2.1 dX5_lose_5 rfl hl (by decide) rfl (fun ls hl => ?_)
    refine lv_aload_n F.1.1 F.1.2.1 dX5_lose_6 rfl (lv_at hl 0 rfl) ?_
    refine lv_ifnonnull (tgt := 12) F.1.1 F.1.2.1 dX5_lose_7 (by decide) ?_
    refine lv_aload_n F.1.1 F.1.2.1 dX5_lose_12 rfl (lv_at hl 0 rfl) ?_
    refine gt_3_1 F hP i_4 s_6 inX5_lose_3 kX5_lose_176 dX5_lose_13 ?_
    refine jz_eq (tgt := 23) F dX5_lose_16 (by decide) hf (fun hf => ?_) (fun hf => ?_)
    · refine lv_iconst (v := (0 : Int32)) F.1.1 F.1.2.1 dX5_lose_23 (by decide) ?_
      refine lv_istore_n (lv' := [(3, .int (0 : Int32)), (2, .ref (ga G i_4)), (0, .ref (ga G 0)), (1, .int x1)]) F.1.1 F.1.2.1 dX5_lose_24 rfl hl (by decide) rfl (fun ls hl => ?_)
      refine lv_aload_n F.1.1 F.1.2.1 dX5_lose_25 rfl (lv_at hl 1 rfl) ?_
      refine lv_iconst (v := (0 : Int32)) F.1.1 F.1.2.1 dX5_lose_26 (by decide) ?_
      refine pt_3_1 F hP hS i_4 s_6 inX5_lose_3 kX5_lose_176 rfl rfl dX5_lose_27 hf (fun μ_7 H locs hP hS hf => ?_)
      refine lv_iload_n F.1.1 F.1.2.1 dX5_lose_30 rfl (lv_at hl 0 rfl) ?_
      exact retI F hP hS dX5_lose_31 hf
    · refine lv_iconst (v := (1 : Int32)) F.1.1 F.1.2.1 dX5_lose_19 (by decide) ?_
      refine lv_goto (tgt := 24) F.1.1 F.1.2.1 dX5_lose_20 (by decide) ?_
      refine lv_istore_n (lv' := [(3, .int (1 : Int32)), (2, .ref (ga G i_4)), (0, .ref (ga G 0)), (1, .int x1)]) F.1.1 F.1.2.1 dX5_lose_24 rfl hl (by decide) rfl (fun ls hl => ?_)
      refine lv_aload_n F.1.1 F.1.2.1 dX5_lose_25 rfl (lv_at hl 1 rfl) ?_
      refine lv_iconst (v := (0 : Int32)) F.1.1 F.1.2.1 dX5_lose_26 (by decide) ?_
      refine pt_3_1 F hP hS i_4 s_6 inX5_lose_3 kX5_lose_176 rfl rfl dX5_lose_27 hf (fun μ_8 H locs hP hS hf => ?_)
      refine lv_iload_n F.1.1 F.1.2.1 dX5_lose_30 rfl (lv_at hl 0 rfl) ?_
      exact retI F hP hS dX5_lose_31 hf
abbrev rmX3_faultOfCell : Room := { frames := 0, cells := 0, slots := 0, locals := 0 }
theorem hdX3_faultOfCell : yX3_faultOfCell.cls = RX3 ∧ yX3_faultOfCell.cls ≠ "java/lang/invoke/MethodHandle" ∧ yX3_faultOfCell.cls ≠ "java/lang/invoke/VarHandle" ∧ (parseMethodDescriptor yX3_faultOfCell.desc).map (fun d => d.parameters.length) = some 1 := by decide +kernel
theorem kX3_faultOfCell_15 : Cond.fieldLink RX3 15 "PaperLayers$Sheet" "hasRow" "Z" ∈ wsX3_faultOfCell := List.mem_cons_of_mem _ (List.mem_append_left _ (List.mem_of_getElem? (i := 0) rfl))
theorem kX3_faultOfCell_32 : Cond.fieldLink RX3 32 "PaperLayers$Sheet" "length" "I" ∈ wsX3_faultOfCell := List.mem_cons_of_mem _ (List.mem_append_left _ (List.mem_of_getElem? (i := 1) rfl))
theorem inX3_faultOfCell_3 : ∀ w ∈ wsX30, w ∈ wsX3_faultOfCell := fun _ h => List.mem_cons_of_mem _ (List.mem_append_right _ (h))
set_option maxHeartbeats 4000000 in
set_option maxRecDepth 100000 in
theorem mX3_faultOfCell (l : Launch) (G : GT) (hG : GD G) (t : Nat) (st : sh t = 3) (x1 : Int32) (μ : Mem) (r : Int32) (μ' : Mem) (hf : fX3_faultOfCell t x1 μ = some (r, μ')) : Ct l yX3_faultOfCell wsX3_faultOfCell rmX3_faultOfCell G [.ref (ga G t), .int x1] μ (some (.int r)) μ' := by
  refine Ct.of (cc := cX3_faultOfCell) (maxL := 2) (ret := (some .int)) (own := RX3) hG (by decide) rfl rfl (Nat.le_of_ble_eq_true rfl) ?_
  intro p e s m args below meth c ls H locs F hl hP hS
  have hl : lv_has ls 2 [(0, .ref (ga G t)), (1, .int x1)] := hl
  unfold fX3_faultOfCell at hf
  refine lv_aload_n F.1.1 F.1.2.1 dX3_faultOfCell_0 rfl (lv_at hl 0 rfl) ?_
  refine gt_3_1 F hP t st inX3_faultOfCell_3 kX3_faultOfCell_15 dX3_faultOfCell_1 ?_
  refine jz_ne (tgt := 9) F dX3_faultOfCell_4 (by decide) hf (fun hf => ?_) (fun hf => ?_)
  · refine lv_iload_n F.1.1 F.1.2.1 dX3_faultOfCell_9 rfl (lv_at hl 1 rfl) ?_
    refine jz_lt (tgt := 25) F dX3_faultOfCell_10 (by decide) hf (fun hf => ?_) (fun hf => ?_)
    · refine lv_iconst (v := (3 : Int32)) F.1.1 F.1.2.1 dX3_faultOfCell_25 (by decide) ?_
      exact retI F hP hS dX3_faultOfCell_26 hf
    · refine lv_iload_n F.1.1 F.1.2.1 dX3_faultOfCell_13 rfl (lv_at hl 1 rfl) ?_
      refine lv_aload_n F.1.1 F.1.2.1 dX3_faultOfCell_14 rfl (lv_at hl 0 rfl) ?_
      refine gt_3_3 F hP t st inX3_faultOfCell_3 kX3_faultOfCell_32 dX3_faultOfCell_15 ?_
      refine jc_ge (tgt := 25) F dX3_faultOfCell_18 (by decide) hf (fun hf => ?_) (fun hf => ?_)
      · refine lv_iconst (v := (3 : Int32)) F.1.1 F.1.2.1 dX3_faultOfCell_25 (by decide) ?_
        exact retI F hP hS dX3_faultOfCell_26 hf
      · refine lv_iconst (v := (0 : Int32)) F.1.1 F.1.2.1 dX3_faultOfCell_21 (by decide) ?_
        refine lv_goto (tgt := 26) F.1.1 F.1.2.1 dX3_faultOfCell_22 (by decide) ?_
        exact retI F hP hS dX3_faultOfCell_26 hf
  · refine lv_iconst (v := (1 : Int32)) F.1.1 F.1.2.1 dX3_faultOfCell_7 (by decide) ?_
    exact retI F hP hS dX3_faultOfCell_8 hf
abbrev rmX3_cut : Room := { frames := 0, cells := 0, slots := 0, locals := 0 }
theorem hdX3_cut : yX3_cut.cls = RX3 ∧ yX3_cut.cls ≠ "java/lang/invoke/MethodHandle" ∧ yX3_cut.cls ≠ "java/lang/invoke/VarHandle" ∧ (parseMethodDescriptor yX3_cut.desc).map (fun d => d.parameters.length) = some 1 := by decide +kernel
theorem kX3_cut_19 : Cond.fieldLink RX3 19 "PaperLayers$Sheet" "lane" "I" ∈ wsX3_cut := List.mem_cons_of_mem _ (List.mem_append_left _ (List.mem_of_getElem? (i := 0) rfl))
theorem inX3_cut_3 : ∀ w ∈ wsX30, w ∈ wsX3_cut := fun _ h => List.mem_cons_of_mem _ (List.mem_append_right _ (h))
set_option maxHeartbeats 4000000 in
set_option maxRecDepth 100000 in
theorem mX3_cut (l : Launch) (G : GT) (hG : GD G) (t : Nat) (st : sh t = 3) (x1 : Int32) (μ : Mem) (r : Int32) (μ' : Mem) (hf : fX3_cut t x1 μ = some (r, μ')) : Ct l yX3_cut wsX3_cut rmX3_cut G [.ref (ga G t), .int x1] μ (some (.int r)) μ' := by
  refine Ct.of (cc := cX3_cut) (maxL := 2) (ret := (some .int)) (own := RX3) hG (by decide) rfl rfl (Nat.le_of_ble_eq_true rfl) ?_
  intro p e s m args below meth c ls H locs F hl hP hS
  have hl : lv_has ls 2 [(0, .ref (ga G t)), (1, .int x1)] := hl
  unfold fX3_cut at hf
  refine lv_aload_n F.1.1 F.1.2.1 dX3_cut_0 rfl (lv_at hl 0 rfl) ?_
  refine gt_3_2 F hP t st inX3_cut_3 kX3_cut_19 dX3_cut_1 ?_
  refine split_sw (k := (0 : Int32)) hf (fun hk0 hf => ?_) (fun hn0 hf => ?_)
  · refine lv_lookup (tgt := 32) (off := 28) F.1.1 F.1.2.1 dX3_cut_4 (by decide) (by rw [hk0]; decide) (by decide) ?_
    refine lv_iload_n F.1.1 F.1.2.1 dX3_cut_32 rfl (lv_at hl 1 rfl) ?_
    refine lv_i2b F.1.1 F.1.2.1 dX3_cut_33 rfl ?_
    exact retI F hP hS dX3_cut_34 hf
  refine split_sw (k := (1 : Int32)) hf (fun hk1 hf => ?_) (fun hn1 hf => ?_)
  · refine lv_lookup (tgt := 35) (off := 31) F.1.1 F.1.2.1 dX3_cut_4 (by decide) (by rw [hk1]; decide) (by decide) ?_
    refine lv_iload_n F.1.1 F.1.2.1 dX3_cut_35 rfl (lv_at hl 1 rfl) ?_
    refine lv_i2s F.1.1 F.1.2.1 dX3_cut_36 rfl ?_
    exact retI F hP hS dX3_cut_37 hf
  refine lv_lookup (tgt := 38) (off := 34) F.1.1 F.1.2.1 dX3_cut_4 (by decide) (by refine (lv_osw hn0 (by decide)).trans ?_; refine (lv_osw hn1 (by decide)).trans ?_; rfl) (by decide) ?_
  refine lv_iload_n F.1.1 F.1.2.1 dX3_cut_38 rfl (lv_at hl 1 rfl) ?_
  exact retI F hP hS dX3_cut_39 hf
abbrev rmX3_setCell : Room := { frames := 1, cells := 0, slots := 0, locals := 21 }
theorem hdX3_setCell : yX3_setCell.cls = RX3 ∧ yX3_setCell.cls ≠ "java/lang/invoke/MethodHandle" ∧ yX3_setCell.cls ≠ "java/lang/invoke/VarHandle" ∧ (parseMethodDescriptor yX3_setCell.desc).map (fun d => d.parameters.length) = some 2 := by decide +kernel
theorem kX3_setCell_32 : Cond.fieldLink RX3 32 "PaperLayers$Sheet" "length" "I" ∈ wsX3_setCell := List.mem_cons_of_mem _ (List.mem_append_left _ (List.mem_of_getElem? (i := 0) rfl))
theorem kX3_setCell_9 : Cond.fieldLink RX3 9 "PaperLayers$Sheet" "cells" "[I" ∈ wsX3_setCell := List.mem_cons_of_mem _ (List.mem_append_left _ (List.mem_of_getElem? (i := 1) rfl))
theorem inX3_setCell_3 : ∀ w ∈ wsX30, w ∈ wsX3_setCell := fun _ h => List.mem_cons_of_mem _ (List.mem_append_right _ (h))
set_option maxHeartbeats 4000000 in
set_option maxRecDepth 100000 in
theorem mX3_setCell (l : Launch) (G : GT) (hG : GD G) (t : Nat) (st : sh t = 3) (x1 : Int32) (x2 : Int32) (μ : Mem) (r : Unit) (μ' : Mem) (hf : fX3_setCell t x1 x2 μ = some (r, μ')) : Ct l yX3_setCell wsX3_setCell rmX3_setCell G [.ref (ga G t), .int x1, .int x2] μ none μ' := by
  refine Ct.of (cc := cX3_setCell) (maxL := 3) (ret := none) (own := RX3) hG (by decide) rfl rfl (Nat.le_of_ble_eq_true rfl) ?_
  intro p e s m args below meth c ls H locs F hl hP hS
  have hl : lv_has ls 3 [(0, .ref (ga G t)), (1, .int x1), (2, .int x2)] := hl
  unfold fX3_setCell at hf
  refine lv_iload_n F.1.1 F.1.2.1 dX3_setCell_0 rfl (lv_at hl 1 rfl) ?_
  refine jz_lt (tgt := 23) F dX3_setCell_1 (by decide) hf (fun hf => ?_) (fun hf => ?_)
  · exact retV F hP hS dX3_setCell_23 hf
  · refine lv_iload_n F.1.1 F.1.2.1 dX3_setCell_4 rfl (lv_at hl 1 rfl) ?_
    refine lv_aload_n F.1.1 F.1.2.1 dX3_setCell_5 rfl (lv_at hl 0 rfl) ?_
    refine gt_3_3 F hP t st inX3_setCell_3 kX3_setCell_32 dX3_setCell_6 ?_
    refine jc_ge (tgt := 23) F dX3_setCell_9 (by decide) hf (fun hf => ?_) (fun hf => ?_)
    · exact retV F hP hS dX3_setCell_23 hf
    · refine lv_aload_n F.1.1 F.1.2.1 dX3_setCell_12 rfl (lv_at hl 0 rfl) ?_
      refine gt_3_0 F hP t st inX3_setCell_3 kX3_setCell_9 dX3_setCell_13 (fun s_1 n_2 => ?_)
      refine lv_iload_n F.1.1 F.1.2.1 dX3_setCell_16 rfl (lv_at hl 1 rfl) ?_
      refine lv_aload_n F.1.1 F.1.2.1 dX3_setCell_17 rfl (lv_at hl 0 rfl) ?_
      refine lv_iload_n F.1.1 F.1.2.1 dX3_setCell_18 rfl (lv_at hl 2 rfl) ?_
      obtain ⟨r_5, μ_3, hc_4, hf⟩ := bnd_some hf
      refine rV1 (R := rmX3_setCell) (As := [.int x2]) (rest := [.int x1, .ref (ga G (t + 4))]) F hP hS hl (mX3_cut l G F.2.2.2.2 t st x2 _ _ _ hc_4) gX3_setCell_X3_cut st hdX3_cut rfl rfl rfl ⟨Nat.le_of_ble_eq_true rfl, Nat.le_of_ble_eq_true rfl⟩ (by decide) rfl rfl rfl (Nat.le_of_ble_eq_true rfl) ⟨Nat.le_of_ble_eq_true rfl, Nat.le_of_ble_eq_true rfl⟩ dX3_setCell_19 (fun H locs hP hS => ?_)
      refine r_ias F hP hS (t + 4) s_1 n_2 dX3_setCell_22 hf (fun μ_6 H locs hP hS hf => ?_)
      exact retV F hP hS dX3_setCell_23 hf
abbrev rmX5_put : Room := { frames := 2, cells := 0, slots := 0, locals := 43 }
theorem hdX5_put : yX5_put.cls = RX5 ∧ yX5_put.cls ≠ "java/lang/invoke/MethodHandle" ∧ yX5_put.cls ≠ "java/lang/invoke/VarHandle" ∧ (parseMethodDescriptor yX5_put.desc).map (fun d => d.parameters.length) = some 3 := by decide +kernel
theorem kX5_put_42 : Cond.fieldLink RX5 42 "PaperLayers" "latestFault" "I" ∈ wsX5_put := List.mem_cons_of_mem _ (List.mem_append_left _ (List.mem_append_left _ (List.mem_append_left _ (List.mem_of_getElem? (i := 0) rfl))))
theorem inX5_put_5 : ∀ w ∈ wsX50, w ∈ wsX5_put := fun _ h => List.mem_cons_of_mem _ (List.mem_append_left _ (List.mem_append_right _ (h)))
set_option maxHeartbeats 4000000 in
set_option maxRecDepth 100000 in
theorem mX5_put (l : Launch) (G : GT) (hG : GD G) (x1 : Int32) (x2 : Int32) (x3 : Int32) (μ : Mem) (r : Int32) (μ' : Mem) (hf : fX5_put x1 x2 x3 μ = some (r, μ')) : Ct l yX5_put wsX5_put rmX5_put G [.ref (ga G 0), .int x1, .int x2, .int x3] μ (some (.int r)) μ' := by
  refine Ct.of (cc := cX5_put) (maxL := 6) (ret := (some .int)) (own := RX5) hG (by decide) rfl rfl (Nat.le_of_ble_eq_true rfl) ?_
  intro p e s m args below meth c ls H locs F hl hP hS
  have hl : lv_has ls 6 [(0, .ref (ga G 0)), (1, .int x1), (2, .int x2), (3, .int x3)] := hl
  unfold fX5_put at hf
  refine lv_aload_n F.1.1 F.1.2.1 dX5_put_0 rfl (lv_at hl 0 rfl) ?_
  refine lv_iconst (v := (0 : Int32)) F.1.1 F.1.2.1 dX5_put_1 (by decide) ?_
  refine pt_5_6 F hP hS 0 rfl inX5_put_5 kX5_put_42 dX5_put_2 hf (fun μ_1 H locs hP hS hf => ?_)
  refine lv_aload_n F.1.1 F.1.2.1 dX5_put_5 rfl (lv_at hl 0 rfl) ?_
  refine lv_iload_n F.1.1 F.1.2.1 dX5_put_6 rfl (lv_at hl 1 rfl) ?_
  obtain ⟨r_4, μ_2, hc_3, hf⟩ := bnd_some hf
  refine rV1 (R := rmX5_put) (As := [.int x1]) (rest := []) F hP hS hl (mX5_sheetAt l G F.2.2.2.2 x1 _ _ _ hc_3) gX5_put_X5_sheetAt rfl hdX5_sheetAt rfl rfl rfl ⟨Nat.le_of_ble_eq_true rfl, Nat.le_of_ble_eq_true rfl⟩ (by decide) rfl rfl rfl (Nat.le_of_ble_eq_true rfl) ⟨Nat.le_of_ble_eq_true rfl, Nat.le_of_ble_eq_true rfl⟩ dX5_put_7 (fun H locs hP hS => ?_)
  refine top_o hf (fun hf => ?_) (fun i_5 ho_6 hf => ?_)
  · refine lv_astoreN (lv' := [(4, .null), (0, .ref (ga G 0)), (1, .int x1), (2, .int x2), (3, .int x3)]) F.1.1 F.1.2.1 dX5_put_10 hl (by decide) rfl (fun ls hl => ?_)
    refine lv_aloadN F.1.1 F.1.2.1 dX5_put_12 (lv_at hl 0 rfl) ?_
    refine lv_ifnonnullN F.1.1 F.1.2.1 dX5_put_14 ?_
    refine lv_iconst (v := (-1 : Int32)) F.1.1 F.1.2.1 dX5_put_17 (by decide) ?_
    exact retI F hP hS dX5_put_18 hf
  · have s_7 := shX5_sheetAt_r (ho_6 ▸ hc_3)
    refine lv_astore (lv' := [(4, .ref (ga G i_5)), (0, .ref (ga G 0)), (1, .int x1), (2, .int x2), (3, .int x3)]) F.1.1 F.1.2.1 dX5_put_10 hl (by decide) rfl (fun ls hl => ?_)
    refine lv_aload F.1.1 F.1.2.1 dX5_put_12 (lv_at hl 0 rfl) ?_
    refine lv_ifnonnull (tgt := 19) F.1.1 F.1.2.1 dX5_put_14 (by decide) ?_
    refine lv_aload F.1.1 F.1.2.1 dX5_put_19 (lv_at hl 0 rfl) ?_
    refine lv_iload_n F.1.1 F.1.2.1 dX5_put_21 rfl (lv_at hl 3 rfl) ?_
    obtain ⟨r_10, μ_8, hc_9, hf⟩ := bnd_some hf
    refine rV1 (R := rmX5_put) (As := [.int x2]) (rest := []) F hP hS hl (mX3_faultOfCell l G F.2.2.2.2 i_5 s_7 x2 _ _ _ hc_9) gX5_put_X3_faultOfCell s_7 hdX3_faultOfCell rfl rfl rfl ⟨Nat.le_of_ble_eq_true rfl, Nat.le_of_ble_eq_true rfl⟩ (by decide) rfl rfl rfl (Nat.le_of_ble_eq_true rfl) ⟨Nat.le_of_ble_eq_true rfl, Nat.le_of_ble_eq_true rfl⟩ dX5_put_22 (fun H locs hP hS => ?_)
    refine lv_istore (lv' := [(5, .int r_10), (4, .ref (ga G i_5)), (0, .ref (ga G 0)), (1, .int x1), (2, .int x2), (3, .int x3)]) F.1.1 F.1.2.1 dX5_put_25 hl (by decide) rfl (fun ls hl => ?_)
    refine lv_iload F.1.1 F.1.2.1 dX5_put_27 (lv_at hl 0 rfl) ?_
    refine jz_eq (tgt := 39) F dX5_put_29 (by decide) hf (fun hf => ?_) (fun hf => ?_)
    · refine lv_aload F.1.1 F.1.2.1 dX5_put_39 (lv_at hl 1 rfl) ?_
      refine lv_iload_n F.1.1 F.1.2.1 dX5_put_41 rfl (lv_at hl 4 rfl) ?_
      refine lv_iload_n F.1.1 F.1.2.1 dX5_put_42 rfl (lv_at hl 5 rfl) ?_
      obtain ⟨u_13, μ_11, hc_12, hf⟩ := bnd_some hf
      refine rVv (R := rmX5_put) (As := [.int x2, .int x3]) (rest := []) F hP hS hl (mX3_setCell l G F.2.2.2.2 i_5 s_7 x2 x3 _ _ _ hc_12) gX5_put_X3_setCell s_7 hdX3_setCell rfl rfl rfl ⟨Nat.le_of_ble_eq_true rfl, Nat.le_of_ble_eq_true rfl⟩ (by decide) rfl rfl rfl (Nat.le_of_ble_eq_true rfl) ⟨Nat.le_of_ble_eq_true rfl, Nat.le_of_ble_eq_true rfl⟩ dX5_put_43 (fun H locs hP hS => ?_)
      refine lv_iconst (v := (1 : Int32)) F.1.1 F.1.2.1 dX5_put_46 (by decide) ?_
      exact retI F hP hS dX5_put_47 hf
    · refine lv_aload_n F.1.1 F.1.2.1 dX5_put_32 rfl (lv_at hl 2 rfl) ?_
      refine lv_iload F.1.1 F.1.2.1 dX5_put_33 (lv_at hl 0 rfl) ?_
      obtain ⟨r_16, μ_14, hc_15, hf⟩ := bnd_some hf
      refine rV1 (R := rmX5_put) (As := [.int r_10]) (rest := []) F hP hS hl (mX5_failed l G F.2.2.2.2 r_10 _ _ _ hc_15) gX5_put_X5_failed rfl hdX5_failed rfl rfl rfl ⟨Nat.le_of_ble_eq_true rfl, Nat.le_of_ble_eq_true rfl⟩ (by decide) rfl rfl rfl (Nat.le_of_ble_eq_true rfl) ⟨Nat.le_of_ble_eq_true rfl, Nat.le_of_ble_eq_true rfl⟩ dX5_put_35 (fun H locs hP hS => ?_)
      exact retI F hP hS dX5_put_38 hf
abbrev rmX5_cell : Room := { frames := 2, cells := 0, slots := 0, locals := 42 }
theorem hdX5_cell : yX5_cell.cls = RX5 ∧ yX5_cell.cls ≠ "java/lang/invoke/MethodHandle" ∧ yX5_cell.cls ≠ "java/lang/invoke/VarHandle" ∧ (parseMethodDescriptor yX5_cell.desc).map (fun d => d.parameters.length) = some 3 := by decide +kernel
theorem kX5_cell_167 : Cond.constantLong RX5 167 (-9223372036854775808) ∈ wsX5_cell := List.mem_cons_of_mem _ (List.mem_append_left _ (List.mem_append_left _ (List.mem_append_left _ (List.mem_of_getElem? (i := 1) rfl))))
theorem kX5_cell_42 : Cond.fieldLink RX5 42 "PaperLayers" "latestFault" "I" ∈ wsX5_cell := List.mem_cons_of_mem _ (List.mem_append_left _ (List.mem_append_left _ (List.mem_append_left _ (List.mem_of_getElem? (i := 0) rfl))))
theorem inX5_cell_5 : ∀ w ∈ wsX50, w ∈ wsX5_cell := fun _ h => List.mem_cons_of_mem _ (List.mem_append_left _ (List.mem_append_right _ (h)))
set_option maxHeartbeats 4000000 in
set_option maxRecDepth 100000 in
theorem mX5_cell (l : Launch) (G : GT) (hG : GD G) (x1 : Int32) (x2 : Int32) (x3 : Int32) (μ : Mem) (r : Int64) (μ' : Mem) (hf : fX5_cell x1 x2 x3 μ = some (r, μ')) : Ct l yX5_cell wsX5_cell rmX5_cell G [.ref (ga G 0), .int x1, .int x2, .int x3] μ (some (.long r)) μ' := by
  refine Ct.of (cc := cX5_cell) (maxL := 6) (ret := (some .long)) (own := RX5) hG (by decide) rfl rfl (Nat.le_of_ble_eq_true rfl) ?_
  intro p e s m args below meth c ls H locs F hl hP hS
  have hl : lv_has ls 6 [(0, .ref (ga G 0)), (1, .int x1), (2, .int x2), (3, .int x3)] := hl
  unfold fX5_cell at hf
  refine lv_aload_n F.1.1 F.1.2.1 dX5_cell_0 rfl (lv_at hl 0 rfl) ?_
  refine lv_iconst (v := (0 : Int32)) F.1.1 F.1.2.1 dX5_cell_1 (by decide) ?_
  refine pt_5_6 F hP hS 0 rfl inX5_cell_5 kX5_cell_42 dX5_cell_2 hf (fun μ_1 H locs hP hS hf => ?_)
  refine lv_aload_n F.1.1 F.1.2.1 dX5_cell_5 rfl (lv_at hl 0 rfl) ?_
  refine lv_iload_n F.1.1 F.1.2.1 dX5_cell_6 rfl (lv_at hl 1 rfl) ?_
  obtain ⟨r_4, μ_2, hc_3, hf⟩ := bnd_some hf
  refine rV1 (R := rmX5_cell) (As := [.int x1]) (rest := []) F hP hS hl (mX5_sheetAt l G F.2.2.2.2 x1 _ _ _ hc_3) gX5_cell_X5_sheetAt rfl hdX5_sheetAt rfl rfl rfl ⟨Nat.le_of_ble_eq_true rfl, Nat.le_of_ble_eq_true rfl⟩ (by decide) rfl rfl rfl (Nat.le_of_ble_eq_true rfl) ⟨Nat.le_of_ble_eq_true rfl, Nat.le_of_ble_eq_true rfl⟩ dX5_cell_7 (fun H locs hP hS => ?_)
  refine top_o hf (fun hf => ?_) (fun i_5 ho_6 hf => ?_)
  · refine lv_astoreN (lv' := [(4, .null), (0, .ref (ga G 0)), (1, .int x1), (2, .int x2), (3, .int x3)]) F.1.1 F.1.2.1 dX5_cell_10 hl (by decide) rfl (fun ls hl => ?_)
    refine lv_aloadN F.1.1 F.1.2.1 dX5_cell_12 (lv_at hl 0 rfl) ?_
    refine lv_ifnullN (tgt := 25) F.1.1 F.1.2.1 dX5_cell_14 (by decide) ?_
    refine lv_ldc2 (v := (-9223372036854775808 : Int64)) F.1.1 F.1.2.1 F.1.2.2.2.1 (F.1.2.2.2.2 _ kX5_cell_167) dX5_cell_25 ?_
    exact retL F hP hS dX5_cell_28 hf
  · have s_7 := shX5_sheetAt_r (ho_6 ▸ hc_3)
    refine lv_astore (lv' := [(4, .ref (ga G i_5)), (0, .ref (ga G 0)), (1, .int x1), (2, .int x2), (3, .int x3)]) F.1.1 F.1.2.1 dX5_cell_10 hl (by decide) rfl (fun ls hl => ?_)
    refine lv_aload F.1.1 F.1.2.1 dX5_cell_12 (lv_at hl 0 rfl) ?_
    refine lv_ifnull F.1.1 F.1.2.1 dX5_cell_14 ?_
    refine lv_iload_n F.1.1 F.1.2.1 dX5_cell_17 rfl (lv_at hl 4 rfl) ?_
    refine lv_iconst (v := (2 : Int32)) F.1.1 F.1.2.1 dX5_cell_18 (by decide) ?_
    obtain ⟨r_10, μ_8, hc_9, hf⟩ := bnd_some hf
    refine rS1 (R := rmX5_cell) (As := [.int x3, .int (2 : Int32)]) (rest := []) F hP hS hl (mX5_isUpTo l G F.2.2.2.2 x3 (2 : Int32) _ _ _ hc_9) gX5_cell_X5_isUpTo hdX5_isUpTo rfl rfl rfl ⟨Nat.le_of_ble_eq_true rfl, Nat.le_of_ble_eq_true rfl⟩ rfl rfl (Nat.le_of_ble_eq_true rfl) ⟨Nat.le_of_ble_eq_true rfl, Nat.le_of_ble_eq_true rfl⟩ dX5_cell_19 (fun H locs hP hS => ?_)
    refine jz_ne (tgt := 29) F dX5_cell_22 (by decide) hf (fun hf => ?_) (fun hf => ?_)
    · refine lv_aload F.1.1 F.1.2.1 dX5_cell_29 (lv_at hl 0 rfl) ?_
      refine lv_iload_n F.1.1 F.1.2.1 dX5_cell_31 rfl (lv_at hl 4 rfl) ?_
      obtain ⟨r_13, μ_11, hc_12, hf⟩ := bnd_some hf
      refine rV1 (R := rmX5_cell) (As := [.int x3]) (rest := []) F hP hS hl (mX3_faultAsLane l G F.2.2.2.2 i_5 s_7 x3 _ _ _ hc_12) gX5_cell_X3_faultAsLane s_7 hdX3_faultAsLane rfl rfl rfl ⟨Nat.le_of_ble_eq_true rfl, Nat.le_of_ble_eq_true rfl⟩ (by decide) rfl rfl rfl (Nat.le_of_ble_eq_true rfl) ⟨Nat.le_of_ble_eq_true rfl, Nat.le_of_ble_eq_true rfl⟩ dX5_cell_32 (fun H locs hP hS => ?_)
      refine lv_istore (lv' := [(5, .int r_13), (4, .ref (ga G i_5)), (0, .ref (ga G 0)), (1, .int x1), (2, .int x2), (3, .int x3)]) F.1.1 F.1.2.1 dX5_cell_35 hl (by decide) rfl (fun ls hl => ?_)
      refine lv_iload F.1.1 F.1.2.1 dX5_cell_37 (lv_at hl 0 rfl) ?_
      refine jz_ne (tgt := 50) F dX5_cell_39 (by decide) hf (fun hf => ?_) (fun hf => ?_)
      · refine lv_iload F.1.1 F.1.2.1 dX5_cell_50 (lv_at hl 0 rfl) ?_
        refine jz_eq (tgt := 65) F dX5_cell_52 (by decide) hf (fun hf => ?_) (fun hf => ?_)
        · refine lv_aload F.1.1 F.1.2.1 dX5_cell_65 (lv_at hl 1 rfl) ?_
          refine lv_iload_n F.1.1 F.1.2.1 dX5_cell_67 rfl (lv_at hl 4 rfl) ?_
          obtain ⟨r_16, μ_14, hc_15, hf⟩ := bnd_some hf
          refine rV1 (R := rmX5_cell) (As := [.int x2]) (rest := []) F hP hS hl (mX3_getCell l G F.2.2.2.2 i_5 s_7 x2 _ _ _ hc_15) gX5_cell_X3_getCell s_7 hdX3_getCell rfl rfl rfl ⟨Nat.le_of_ble_eq_true rfl, Nat.le_of_ble_eq_true rfl⟩ (by decide) rfl rfl rfl (Nat.le_of_ble_eq_true rfl) ⟨Nat.le_of_ble_eq_true rfl, Nat.le_of_ble_eq_true rfl⟩ dX5_cell_68 (fun H locs hP hS => ?_)
          refine lv_i2l F.1.1 F.1.2.1 dX5_cell_71 rfl ?_
          exact retL F hP hS dX5_cell_72 hf
        · refine lv_aload_n F.1.1 F.1.2.1 dX5_cell_55 rfl (lv_at hl 2 rfl) ?_
          refine lv_iload F.1.1 F.1.2.1 dX5_cell_56 (lv_at hl 0 rfl) ?_
          refine pt_5_6 F hP hS 0 rfl inX5_cell_5 kX5_cell_42 dX5_cell_58 hf (fun μ_17 H locs hP hS hf => ?_)
          refine lv_ldc2 (v := (-9223372036854775808 : Int64)) F.1.1 F.1.2.1 F.1.2.2.2.1 (F.1.2.2.2.2 _ kX5_cell_167) dX5_cell_61 ?_
          exact retL F hP hS dX5_cell_64 hf
      · refine lv_aload F.1.1 F.1.2.1 dX5_cell_42 (lv_at hl 1 rfl) ?_
        refine lv_iload_n F.1.1 F.1.2.1 dX5_cell_44 rfl (lv_at hl 4 rfl) ?_
        obtain ⟨r_20, μ_18, hc_19, hf⟩ := bnd_some hf
        refine rV1 (R := rmX5_cell) (As := [.int x2]) (rest := []) F hP hS hl (mX3_faultOfCell l G F.2.2.2.2 i_5 s_7 x2 _ _ _ hc_19) gX5_cell_X3_faultOfCell s_7 hdX3_faultOfCell rfl rfl rfl ⟨Nat.le_of_ble_eq_true rfl, Nat.le_of_ble_eq_true rfl⟩ (by decide) rfl rfl rfl (Nat.le_of_ble_eq_true rfl) ⟨Nat.le_of_ble_eq_true rfl, Nat.le_of_ble_eq_true rfl⟩ dX5_cell_45 (fun H locs hP hS => ?_)
        refine lv_istore (lv' := [(5, .int r_20), (4, .ref (ga G i_5)), (0, .ref (ga G 0)), (1, .int x1), (2, .int x2), (3, .int x3)]) F.1.1 F.1.2.1 dX5_cell_48 hl (by decide) rfl (fun ls hl => ?_)
        refine lv_iload F.1.1 F.1.2.1 dX5_cell_50 (lv_at hl 0 rfl) ?_
        refine jz_eq (tgt := 65) F dX5_cell_52 (by decide) hf (fun hf => ?_) (fun hf => ?_)
        · refine lv_aload F.1.1 F.1.2.1 dX5_cell_65 (lv_at hl 1 rfl) ?_
          refine lv_iload_n F.1.1 F.1.2.1 dX5_cell_67 rfl (lv_at hl 4 rfl) ?_
          obtain ⟨r_23, μ_21, hc_22, hf⟩ := bnd_some hf
          refine rV1 (R := rmX5_cell) (As := [.int x2]) (rest := []) F hP hS hl (mX3_getCell l G F.2.2.2.2 i_5 s_7 x2 _ _ _ hc_22) gX5_cell_X3_getCell s_7 hdX3_getCell rfl rfl rfl ⟨Nat.le_of_ble_eq_true rfl, Nat.le_of_ble_eq_true rfl⟩ (by decide) rfl rfl rfl (Nat.le_of_ble_eq_true rfl) ⟨Nat.le_of_ble_eq_true rfl, Nat.le_of_ble_eq_true rfl⟩ dX5_cell_68 (fun H locs hP hS => ?_)
          refine lv_i2l F.1.1 F.1.2.1 dX5_cell_71 rfl ?_
          exact retL F hP hS dX5_cell_72 hf
        · refine lv_aload_n F.1.1 F.1.2.1 dX5_cell_55 rfl (lv_at hl 2 rfl) ?_
          refine lv_iload F.1.1 F.1.2.1 dX5_cell_56 (lv_at hl 0 rfl) ?_
          refine pt_5_6 F hP hS 0 rfl inX5_cell_5 kX5_cell_42 dX5_cell_58 hf (fun μ_24 H locs hP hS hf => ?_)
          refine lv_ldc2 (v := (-9223372036854775808 : Int64)) F.1.1 F.1.2.1 F.1.2.2.2.1 (F.1.2.2.2.2 _ kX5_cell_167) dX5_cell_61 ?_
          exact retL F hP hS dX5_cell_64 hf
    · refine lv_ldc2 (v := (-9223372036854775808 : Int64)) F.1.1 F.1.2.1 F.1.2.2.2.1 (F.1.2.2.2.2 _ kX5_cell_167) dX5_cell_25 ?_
      exact retL F hP hS dX5_cell_28 hf
abbrev rmX3_faultOfCopy : Room := { frames := 1, cells := 0, slots := 0, locals := 22 }
theorem hdX3_faultOfCopy : yX3_faultOfCopy.cls = RX3 ∧ yX3_faultOfCopy.cls ≠ "java/lang/invoke/MethodHandle" ∧ yX3_faultOfCopy.cls ≠ "java/lang/invoke/VarHandle" ∧ (parseMethodDescriptor yX3_faultOfCopy.desc).map (fun d => d.parameters.length) = some 4 := by decide +kernel
theorem kX3_faultOfCopy_15 : Cond.fieldLink RX3 15 "PaperLayers$Sheet" "hasRow" "Z" ∈ wsX3_faultOfCopy := List.mem_cons_of_mem _ (List.mem_append_left _ (List.mem_of_getElem? (i := 0) rfl))
theorem kX3_faultOfCopy_19 : Cond.fieldLink RX3 19 "PaperLayers$Sheet" "lane" "I" ∈ wsX3_faultOfCopy := List.mem_cons_of_mem _ (List.mem_append_left _ (List.mem_of_getElem? (i := 1) rfl))
theorem inX3_faultOfCopy_3 : ∀ w ∈ wsX30, w ∈ wsX3_faultOfCopy := fun _ h => List.mem_cons_of_mem _ (List.mem_append_right _ (h))
set_option maxHeartbeats 4000000 in
set_option maxRecDepth 100000 in
theorem mX3_faultOfCopy (l : Launch) (G : GT) (hG : GD G) (t : Nat) (st : sh t = 3) (x1 : Int32) (j2 : Nat) (sj2 : sh j2 = 3) (x3 : Int32) (x4 : Int32) (μ : Mem) (r : Int32) (μ' : Mem) (hf : fX3_faultOfCopy t x1 j2 x3 x4 μ = some (r, μ')) : Ct l yX3_faultOfCopy wsX3_faultOfCopy rmX3_faultOfCopy G [.ref (ga G t), .int x1, .ref (ga G j2), .int x3, .int x4] μ (some (.int r)) μ' := by
  refine Ct.of (cc := cX3_faultOfCopy) (maxL := 6) (ret := (some .int)) (own := RX3) hG (by decide) rfl rfl (Nat.le_of_ble_eq_true rfl) ?_
  intro p e s m args below meth c ls H locs F hl hP hS
  have hl : lv_has ls 6 [(0, .ref (ga G t)), (1, .int x1), (2, .ref (ga G j2)), (3, .int x3), (4, .int x4)] := hl
  unfold fX3_faultOfCopy at hf
  refine lv_aload_n F.1.1 F.1.2.1 dX3_faultOfCopy_0 rfl (lv_at hl 0 rfl) ?_
  refine gt_3_1 F hP t st inX3_faultOfCopy_3 kX3_faultOfCopy_15 dX3_faultOfCopy_1 ?_
  refine jz_eq (tgt := 14) F dX3_faultOfCopy_4 (by decide) hf (fun hf => ?_) (fun hf => ?_)
  · refine lv_iconst (v := (1 : Int32)) F.1.1 F.1.2.1 dX3_faultOfCopy_14 (by decide) ?_
    exact retI F hP hS dX3_faultOfCopy_15 hf
  · refine lv_aload_n F.1.1 F.1.2.1 dX3_faultOfCopy_7 rfl (lv_at hl 2 rfl) ?_
    refine gt_3_1 F hP j2 sj2 inX3_faultOfCopy_3 kX3_faultOfCopy_15 dX3_faultOfCopy_8 ?_
    refine jz_ne (tgt := 16) F dX3_faultOfCopy_11 (by decide) hf (fun hf => ?_) (fun hf => ?_)
    · refine lv_aload_n F.1.1 F.1.2.1 dX3_faultOfCopy_16 rfl (lv_at hl 0 rfl) ?_
      refine gt_3_2 F hP t st inX3_faultOfCopy_3 kX3_faultOfCopy_19 dX3_faultOfCopy_17 ?_
      refine lv_aload_n F.1.1 F.1.2.1 dX3_faultOfCopy_20 rfl (lv_at hl 2 rfl) ?_
      refine gt_3_2 F hP j2 sj2 inX3_faultOfCopy_3 kX3_faultOfCopy_19 dX3_faultOfCopy_21 ?_
      refine jc_eq (tgt := 29) F dX3_faultOfCopy_24 (by decide) hf (fun hf => ?_) (fun hf => ?_)
      · refine lv_aload_n F.1.1 F.1.2.1 dX3_faultOfCopy_29 rfl (lv_at hl 0 rfl) ?_
        refine lv_iload_n F.1.1 F.1.2.1 dX3_faultOfCopy_30 rfl (lv_at hl 1 rfl) ?_
        refine lv_iload F.1.1 F.1.2.1 dX3_faultOfCopy_31 (lv_at hl 4 rfl) ?_
        obtain ⟨r_3, μ_1, hc_2, hf⟩ := bnd_some hf
        refine rV1 (R := rmX3_faultOfCopy) (As := [.int x1, .int x4]) (rest := []) F hP hS hl (mX3_faultOfCells l G F.2.2.2.2 t st x1 x4 _ _ _ hc_2) gX3_faultOfCopy_X3_faultOfCells st hdX3_faultOfCells rfl rfl rfl ⟨Nat.le_of_ble_eq_true rfl, Nat.le_of_ble_eq_true rfl⟩ (by decide) rfl rfl rfl (Nat.le_of_ble_eq_true rfl) ⟨Nat.le_of_ble_eq_true rfl, Nat.le_of_ble_eq_true rfl⟩ dX3_faultOfCopy_33 (fun H locs hP hS => ?_)
        refine lv_istore (lv' := [(5, .int r_3), (0, .ref (ga G t)), (1, .int x1), (2, .ref (ga G j2)), (3, .int x3), (4, .int x4)]) F.1.1 F.1.2.1 dX3_faultOfCopy_36 hl (by decide) rfl (fun ls hl => ?_)
        refine lv_iload F.1.1 F.1.2.1 dX3_faultOfCopy_38 (lv_at hl 0 rfl) ?_
        refine jz_ne (tgt := 53) F dX3_faultOfCopy_40 (by decide) hf (fun hf => ?_) (fun hf => ?_)
        · refine lv_iload F.1.1 F.1.2.1 dX3_faultOfCopy_53 (lv_at hl 0 rfl) ?_
          exact retI F hP hS dX3_faultOfCopy_55 hf
        · refine lv_aload_n F.1.1 F.1.2.1 dX3_faultOfCopy_43 rfl (lv_at hl 3 rfl) ?_
          refine lv_iload_n F.1.1 F.1.2.1 dX3_faultOfCopy_44 rfl (lv_at hl 4 rfl) ?_
          refine lv_iload F.1.1 F.1.2.1 dX3_faultOfCopy_45 (lv_at hl 5 rfl) ?_
          obtain ⟨r_6, μ_4, hc_5, hf⟩ := bnd_some hf
          refine rV1 (R := rmX3_faultOfCopy) (As := [.int x3, .int x4]) (rest := []) F hP hS hl (mX3_faultOfCells l G F.2.2.2.2 j2 sj2 x3 x4 _ _ _ hc_5) gX3_faultOfCopy_X3_faultOfCells sj2 hdX3_faultOfCells rfl rfl rfl ⟨Nat.le_of_ble_eq_true rfl, Nat.le_of_ble_eq_true rfl⟩ (by decide) rfl rfl rfl (Nat.le_of_ble_eq_true rfl) ⟨Nat.le_of_ble_eq_true rfl, Nat.le_of_ble_eq_true rfl⟩ dX3_faultOfCopy_47 (fun H locs hP hS => ?_)
          refine lv_goto (tgt := 55) F.1.1 F.1.2.1 dX3_faultOfCopy_50 (by decide) ?_
          exact retI F hP hS dX3_faultOfCopy_55 hf
      · refine lv_iconst (v := (2 : Int32)) F.1.1 F.1.2.1 dX3_faultOfCopy_27 (by decide) ?_
        exact retI F hP hS dX3_faultOfCopy_28 hf
    · refine lv_iconst (v := (1 : Int32)) F.1.1 F.1.2.1 dX3_faultOfCopy_14 (by decide) ?_
      exact retI F hP hS dX3_faultOfCopy_15 hf
abbrev rmX5_copy : Room := { frames := 2, cells := 0, slots := 0, locals := 60 }
theorem hdX5_copy : yX5_copy.cls = RX5 ∧ yX5_copy.cls ≠ "java/lang/invoke/MethodHandle" ∧ yX5_copy.cls ≠ "java/lang/invoke/VarHandle" ∧ (parseMethodDescriptor yX5_copy.desc).map (fun d => d.parameters.length) = some 5 := by decide +kernel
theorem kX5_copy_193 : Cond.fieldLink RX5 193 "PaperLayers$Sheet" "cells" "[I" ∈ wsX5_copy := List.mem_cons_of_mem _ (List.mem_append_left _ (List.mem_append_left _ (List.mem_append_left _ (List.mem_of_getElem? (i := 1) rfl))))
theorem kX5_copy_197 : Cond.methodLink RX5 197 arraycopyName ∈ wsX5_copy := List.mem_cons_of_mem _ (List.mem_append_left _ (List.mem_append_left _ (List.mem_append_left _ (List.mem_of_getElem? (i := 2) rfl))))
theorem kX5_copy_42 : Cond.fieldLink RX5 42 "PaperLayers" "latestFault" "I" ∈ wsX5_copy := List.mem_cons_of_mem _ (List.mem_append_left _ (List.mem_append_left _ (List.mem_append_left _ (List.mem_of_getElem? (i := 0) rfl))))
theorem kX5_copy_ini : Cond.initialized "java/lang/System" ∈ wsX5_copy := List.mem_cons_of_mem _ (List.mem_append_left _ (List.mem_append_left _ (List.mem_append_left _ (List.mem_of_getElem? (i := 5) rfl))))
theorem kX5_copy_nat : Cond.native arraycopyName ∈ wsX5_copy := List.mem_cons_of_mem _ (List.mem_append_left _ (List.mem_append_left _ (List.mem_append_left _ (List.mem_of_getElem? (i := 3) rfl))))
theorem kX5_copy_sta : Cond.static arraycopyName ∈ wsX5_copy := List.mem_cons_of_mem _ (List.mem_append_left _ (List.mem_append_left _ (List.mem_append_left _ (List.mem_of_getElem? (i := 4) rfl))))
theorem inX5_copy_3 : ∀ w ∈ wsX30, w ∈ wsX5_copy := fun _ h => List.mem_cons_of_mem _ (List.mem_append_right _ (h))
theorem inX5_copy_5 : ∀ w ∈ wsX50, w ∈ wsX5_copy := fun _ h => List.mem_cons_of_mem _ (List.mem_append_left _ (List.mem_append_right _ (h)))
set_option maxHeartbeats 4000000 in
set_option maxRecDepth 100000 in
theorem mX5_copy (l : Launch) (G : GT) (hG : GD G) (x1 : Int32) (x2 : Int32) (x3 : Int32) (x4 : Int32) (x5 : Int32) (μ : Mem) (r : Int32) (μ' : Mem) (hf : fX5_copy x1 x2 x3 x4 x5 μ = some (r, μ')) : Ct l yX5_copy wsX5_copy rmX5_copy G [.ref (ga G 0), .int x1, .int x2, .int x3, .int x4, .int x5] μ (some (.int r)) μ' := by
  refine Ct.of (cc := cX5_copy) (maxL := 9) (ret := (some .int)) (own := RX5) hG (by decide) rfl rfl (Nat.le_of_ble_eq_true rfl) ?_
  intro p e s m args below meth c ls H locs F hl hP hS
  have hl : lv_has ls 9 [(0, .ref (ga G 0)), (1, .int x1), (2, .int x2), (3, .int x3), (4, .int x4), (5, .int x5)] := hl
  unfold fX5_copy at hf
  refine lv_aload_n F.1.1 F.1.2.1 dX5_copy_0 rfl (lv_at hl 0 rfl) ?_
  refine lv_iconst (v := (0 : Int32)) F.1.1 F.1.2.1 dX5_copy_1 (by decide) ?_
  refine pt_5_6 F hP hS 0 rfl inX5_copy_5 kX5_copy_42 dX5_copy_2 hf (fun μ_1 H locs hP hS hf => ?_)
  refine lv_aload_n F.1.1 F.1.2.1 dX5_copy_5 rfl (lv_at hl 0 rfl) ?_
  refine lv_iload_n F.1.1 F.1.2.1 dX5_copy_6 rfl (lv_at hl 1 rfl) ?_
  obtain ⟨r_4, μ_2, hc_3, hf⟩ := bnd_some hf
  refine rV1 (R := rmX5_copy) (As := [.int x1]) (rest := []) F hP hS hl (mX5_sheetAt l G F.2.2.2.2 x1 _ _ _ hc_3) gX5_copy_X5_sheetAt rfl hdX5_sheetAt rfl rfl rfl ⟨Nat.le_of_ble_eq_true rfl, Nat.le_of_ble_eq_true rfl⟩ (by decide) rfl rfl rfl (Nat.le_of_ble_eq_true rfl) ⟨Nat.le_of_ble_eq_true rfl, Nat.le_of_ble_eq_true rfl⟩ dX5_copy_7 (fun H locs hP hS => ?_)
  refine top_o hf (fun hf => ?_) (fun i_5 ho_6 hf => ?_)
  · refine lv_astoreN (lv' := [(6, .null), (0, .ref (ga G 0)), (1, .int x1), (2, .int x2), (3, .int x3), (4, .int x4), (5, .int x5)]) F.1.1 F.1.2.1 dX5_copy_10 hl (by decide) rfl (fun ls hl => ?_)
    refine lv_aload_n F.1.1 F.1.2.1 dX5_copy_12 rfl (lv_at hl 1 rfl) ?_
    refine lv_iload_n F.1.1 F.1.2.1 dX5_copy_13 rfl (lv_at hl 4 rfl) ?_
    obtain ⟨r_10, μ_8, hc_9, hf⟩ := bnd_some hf
    refine rV1 (R := rmX5_copy) (As := [.int x3]) (rest := []) F hP hS hl (mX5_sheetAt l G F.2.2.2.2 x3 _ _ _ hc_9) gX5_copy_X5_sheetAt rfl hdX5_sheetAt rfl rfl rfl ⟨Nat.le_of_ble_eq_true rfl, Nat.le_of_ble_eq_true rfl⟩ (by decide) rfl rfl rfl (Nat.le_of_ble_eq_true rfl) ⟨Nat.le_of_ble_eq_true rfl, Nat.le_of_ble_eq_true rfl⟩ dX5_copy_14 (fun H locs hP hS => ?_)
    refine top_o hf (fun hf => ?_) (fun i_11 ho_12 hf => ?_)
    · refine lv_astoreN (lv' := [(7, .null), (6, .null), (0, .ref (ga G 0)), (1, .int x1), (2, .int x2), (3, .int x3), (4, .int x4), (5, .int x5)]) F.1.1 F.1.2.1 dX5_copy_17 hl (by decide) rfl (fun ls hl => ?_)
      refine lv_aloadN F.1.1 F.1.2.1 dX5_copy_19 (lv_at hl 1 rfl) ?_
      refine lv_ifnullN (tgt := 29) F.1.1 F.1.2.1 dX5_copy_21 (by decide) ?_
      refine lv_iconst (v := (-1 : Int32)) F.1.1 F.1.2.1 dX5_copy_29 (by decide) ?_
      exact retI F hP hS dX5_copy_30 hf
    · have s_13 := shX5_sheetAt_r (ho_12 ▸ hc_9)
      refine lv_astore (lv' := [(7, .ref (ga G i_11)), (6, .null), (0, .ref (ga G 0)), (1, .int x1), (2, .int x2), (3, .int x3), (4, .int x4), (5, .int x5)]) F.1.1 F.1.2.1 dX5_copy_17 hl (by decide) rfl (fun ls hl => ?_)
      refine lv_aloadN F.1.1 F.1.2.1 dX5_copy_19 (lv_at hl 1 rfl) ?_
      refine lv_ifnullN (tgt := 29) F.1.1 F.1.2.1 dX5_copy_21 (by decide) ?_
      refine lv_iconst (v := (-1 : Int32)) F.1.1 F.1.2.1 dX5_copy_29 (by decide) ?_
      exact retI F hP hS dX5_copy_30 hf
  · have s_7 := shX5_sheetAt_r (ho_6 ▸ hc_3)
    refine lv_astore (lv' := [(6, .ref (ga G i_5)), (0, .ref (ga G 0)), (1, .int x1), (2, .int x2), (3, .int x3), (4, .int x4), (5, .int x5)]) F.1.1 F.1.2.1 dX5_copy_10 hl (by decide) rfl (fun ls hl => ?_)
    refine lv_aload_n F.1.1 F.1.2.1 dX5_copy_12 rfl (lv_at hl 1 rfl) ?_
    refine lv_iload_n F.1.1 F.1.2.1 dX5_copy_13 rfl (lv_at hl 4 rfl) ?_
    obtain ⟨r_16, μ_14, hc_15, hf⟩ := bnd_some hf
    refine rV1 (R := rmX5_copy) (As := [.int x3]) (rest := []) F hP hS hl (mX5_sheetAt l G F.2.2.2.2 x3 _ _ _ hc_15) gX5_copy_X5_sheetAt rfl hdX5_sheetAt rfl rfl rfl ⟨Nat.le_of_ble_eq_true rfl, Nat.le_of_ble_eq_true rfl⟩ (by decide) rfl rfl rfl (Nat.le_of_ble_eq_true rfl) ⟨Nat.le_of_ble_eq_true rfl, Nat.le_of_ble_eq_true rfl⟩ dX5_copy_14 (fun H locs hP hS => ?_)
    refine top_o hf (fun hf => ?_) (fun i_17 ho_18 hf => ?_)
    · refine lv_astoreN (lv' := [(7, .null), (6, .ref (ga G i_5)), (0, .ref (ga G 0)), (1, .int x1), (2, .int x2), (3, .int x3), (4, .int x4), (5, .int x5)]) F.1.1 F.1.2.1 dX5_copy_17 hl (by decide) rfl (fun ls hl => ?_)
      refine lv_aload F.1.1 F.1.2.1 dX5_copy_19 (lv_at hl 1 rfl) ?_
      refine lv_ifnull F.1.1 F.1.2.1 dX5_copy_21 ?_
      refine lv_aloadN F.1.1 F.1.2.1 dX5_copy_24 (lv_at hl 0 rfl) ?_
      refine lv_ifnonnullN F.1.1 F.1.2.1 dX5_copy_26 ?_
      refine lv_iconst (v := (-1 : Int32)) F.1.1 F.1.2.1 dX5_copy_29 (by decide) ?_
      exact retI F hP hS dX5_copy_30 hf
    · have s_19 := shX5_sheetAt_r (ho_18 ▸ hc_15)
      refine lv_astore (lv' := [(7, .ref (ga G i_17)), (6, .ref (ga G i_5)), (0, .ref (ga G 0)), (1, .int x1), (2, .int x2), (3, .int x3), (4, .int x4), (5, .int x5)]) F.1.1 F.1.2.1 dX5_copy_17 hl (by decide) rfl (fun ls hl => ?_)
      refine lv_aload F.1.1 F.1.2.1 dX5_copy_19 (lv_at hl 1 rfl) ?_
      refine lv_ifnull F.1.1 F.1.2.1 dX5_copy_21 ?_
      refine lv_aload F.1.1 F.1.2.1 dX5_copy_24 (lv_at hl 0 rfl) ?_
      refine lv_ifnonnull (tgt := 31) F.1.1 F.1.2.1 dX5_copy_26 (by decide) ?_
      refine lv_aload F.1.1 F.1.2.1 dX5_copy_31 (lv_at hl 1 rfl) ?_
      refine lv_iload_n F.1.1 F.1.2.1 dX5_copy_33 rfl (lv_at hl 4 rfl) ?_
      refine lv_aload F.1.1 F.1.2.1 dX5_copy_34 (lv_at hl 0 rfl) ?_
      refine lv_iload F.1.1 F.1.2.1 dX5_copy_36 (lv_at hl 6 rfl) ?_
      refine lv_iload F.1.1 F.1.2.1 dX5_copy_38 (lv_at hl 7 rfl) ?_
      obtain ⟨r_22, μ_20, hc_21, hf⟩ := bnd_some hf
      refine rV1 (R := rmX5_copy) (As := [.int x2, .ref (ga G i_17), .int x4, .int x5]) (rest := []) F hP hS hl (mX3_faultOfCopy l G F.2.2.2.2 i_5 s_7 x2 i_17 s_19 x4 x5 _ _ _ hc_21) gX5_copy_X3_faultOfCopy s_7 hdX3_faultOfCopy rfl rfl rfl ⟨Nat.le_of_ble_eq_true rfl, Nat.le_of_ble_eq_true rfl⟩ (by decide) rfl rfl rfl (Nat.le_of_ble_eq_true rfl) ⟨Nat.le_of_ble_eq_true rfl, Nat.le_of_ble_eq_true rfl⟩ dX5_copy_40 (fun H locs hP hS => ?_)
      refine lv_istore (lv' := [(8, .int r_22), (7, .ref (ga G i_17)), (6, .ref (ga G i_5)), (0, .ref (ga G 0)), (1, .int x1), (2, .int x2), (3, .int x3), (4, .int x4), (5, .int x5)]) F.1.1 F.1.2.1 dX5_copy_43 hl (by decide) rfl (fun ls hl => ?_)
      refine lv_iload F.1.1 F.1.2.1 dX5_copy_45 (lv_at hl 0 rfl) ?_
      refine jz_eq (tgt := 57) F dX5_copy_47 (by decide) hf (fun hf => ?_) (fun hf => ?_)
      · refine lv_aload F.1.1 F.1.2.1 dX5_copy_57 (lv_at hl 2 rfl) ?_
        refine gt_3_0 F hP i_5 s_7 inX5_copy_3 kX5_copy_193 dX5_copy_59 (fun s_23 n_24 => ?_)
        refine lv_iload_n F.1.1 F.1.2.1 dX5_copy_62 rfl (lv_at hl 5 rfl) ?_
        refine lv_aload F.1.1 F.1.2.1 dX5_copy_63 (lv_at hl 1 rfl) ?_
        refine gt_3_0 F hP i_17 s_19 inX5_copy_3 kX5_copy_193 dX5_copy_65 (fun s_25 n_26 => ?_)
        refine lv_iload F.1.1 F.1.2.1 dX5_copy_68 (lv_at hl 7 rfl) ?_
        refine lv_iload F.1.1 F.1.2.1 dX5_copy_70 (lv_at hl 8 rfl) ?_
        refine r_cpy (R := rmX5_copy) F hP hS hl (i_5 + 4) s_23 n_24 (i_17 + 4) s_25 n_26 (Nat.le_of_ble_eq_true rfl) (Nat.le_of_ble_eq_true rfl) (F.1.2.2.2.2 _ kX5_copy_197) (F.1.2.2.2.2 _ kX5_copy_nat) (F.1.2.2.2.2 _ kX5_copy_sta) (F.1.2.2.2.2 _ kX5_copy_ini) dX5_copy_72 hf (fun μ_27 H locs hP hS hf => ?_)
        refine lv_iload F.1.1 F.1.2.1 dX5_copy_75 (lv_at hl 8 rfl) ?_
        exact retI F hP hS dX5_copy_77 hf
      · refine lv_aload_n F.1.1 F.1.2.1 dX5_copy_50 rfl (lv_at hl 3 rfl) ?_
        refine lv_iload F.1.1 F.1.2.1 dX5_copy_51 (lv_at hl 0 rfl) ?_
        obtain ⟨r_30, μ_28, hc_29, hf⟩ := bnd_some hf
        refine rV1 (R := rmX5_copy) (As := [.int r_22]) (rest := []) F hP hS hl (mX5_failed l G F.2.2.2.2 r_22 _ _ _ hc_29) gX5_copy_X5_failed rfl hdX5_failed rfl rfl rfl ⟨Nat.le_of_ble_eq_true rfl, Nat.le_of_ble_eq_true rfl⟩ (by decide) rfl rfl rfl (Nat.le_of_ble_eq_true rfl) ⟨Nat.le_of_ble_eq_true rfl, Nat.le_of_ble_eq_true rfl⟩ dX5_copy_53 (fun H locs hP hS => ?_)
        exact retI F hP hS dX5_copy_56 hf
abbrev rmX5_leave : Room := { frames := 0, cells := 0, slots := 0, locals := 0 }
theorem hdX5_leave : yX5_leave.cls = RX5 ∧ yX5_leave.cls ≠ "java/lang/invoke/MethodHandle" ∧ yX5_leave.cls ≠ "java/lang/invoke/VarHandle" ∧ (parseMethodDescriptor yX5_leave.desc).map (fun d => d.parameters.length) = some 1 := by decide +kernel
theorem kX5_leave_223 : Cond.fieldLink RX5 223 "PaperLayers" "traced" "I" ∈ wsX5_leave := List.mem_cons_of_mem _ (List.mem_append_left _ (List.mem_of_getElem? (i := 0) rfl))
theorem inX5_leave_5 : ∀ w ∈ wsX50, w ∈ wsX5_leave := fun _ h => List.mem_cons_of_mem _ (List.mem_append_right _ (h))
set_option maxHeartbeats 4000000 in
set_option maxRecDepth 100000 in
theorem mX5_leave (l : Launch) (G : GT) (hG : GD G) (x1 : Int32) (μ : Mem) (r : Unit) (μ' : Mem) (hf : fX5_leave x1 μ = some (r, μ')) : Ct l yX5_leave wsX5_leave rmX5_leave G [.ref (ga G 0), .int x1] μ none μ' := by
  refine Ct.of (cc := cX5_leave) (maxL := 2) (ret := none) (own := RX5) hG (by decide) rfl rfl (Nat.le_of_ble_eq_true rfl) ?_
  intro p e s m args below meth c ls H locs F hl hP hS
  have hl : lv_has ls 2 [(0, .ref (ga G 0)), (1, .int x1)] := hl
  unfold fX5_leave at hf
  refine lv_aload_n F.1.1 F.1.2.1 dX5_leave_0 rfl (lv_at hl 0 rfl) ?_
  refine lv_bipush (v := (31 : Int32)) F.1.1 F.1.2.1 dX5_leave_1 (by decide) ?_
  refine lv_aload_n F.1.1 F.1.2.1 dX5_leave_3 rfl (lv_at hl 0 rfl) ?_
  refine gt_5_5 F hP 0 rfl inX5_leave_5 kX5_leave_223 dX5_leave_4 ?_
  refine lv_imul F.1.1 F.1.2.1 dX5_leave_7 ?_
  refine lv_iload_n F.1.1 F.1.2.1 dX5_leave_8 rfl (lv_at hl 1 rfl) ?_
  refine lv_iadd F.1.1 F.1.2.1 dX5_leave_9 ?_
  refine pt_5_5 F hP hS 0 rfl inX5_leave_5 kX5_leave_223 dX5_leave_10 hf (fun μ_1 H locs hP hS hf => ?_)
  exact retV F hP hS dX5_leave_13 hf
abbrev rmX5_tellStripe : Room := { frames := 1, cells := 0, slots := 0, locals := 21 }
theorem hdX5_tellStripe : yX5_tellStripe.cls = RX5 ∧ yX5_tellStripe.cls ≠ "java/lang/invoke/MethodHandle" ∧ yX5_tellStripe.cls ≠ "java/lang/invoke/VarHandle" ∧ (parseMethodDescriptor yX5_tellStripe.desc).map (fun d => d.parameters.length) = some 1 := by decide +kernel
theorem kX5_tellStripe_86 : Cond.fieldLink RX5 86 "PaperLayers$Layer" "hold" "I" ∈ wsX5_tellStripe := List.mem_cons_of_mem _ (List.mem_append_left _ (List.mem_append_left _ (List.mem_of_getElem? (i := 0) rfl)))
theorem inX5_tellStripe_0 : ∀ w ∈ wsX00, w ∈ wsX5_tellStripe := fun _ h => List.mem_cons_of_mem _ (List.mem_append_left _ (List.mem_append_right _ (h)))
set_option maxHeartbeats 4000000 in
set_option maxRecDepth 100000 in
theorem mX5_tellStripe (l : Launch) (G : GT) (hG : GD G) (j1 : Nat) (sj1 : sh j1 = 0) (μ : Mem) (r : Int32) (μ' : Mem) (hf : fX5_tellStripe j1 μ = some (r, μ')) : Ct l yX5_tellStripe wsX5_tellStripe rmX5_tellStripe G [.ref (ga G 0), .ref (ga G j1)] μ (some (.int r)) μ' := by
  refine Ct.of (cc := cX5_tellStripe) (maxL := 2) (ret := (some .int)) (own := RX5) hG (by decide) rfl rfl (Nat.le_of_ble_eq_true rfl) ?_
  intro p e s m args below meth c ls H locs F hl hP hS
  have hl : lv_has ls 2 [(0, .ref (ga G 0)), (1, .ref (ga G j1))] := hl
  unfold fX5_tellStripe at hf
  refine lv_aload_n F.1.1 F.1.2.1 dX5_tellStripe_0 rfl (lv_at hl 0 rfl) ?_
  refine lv_iconst (v := (1 : Int32)) F.1.1 F.1.2.1 dX5_tellStripe_1 (by decide) ?_
  obtain ⟨u_3, μ_1, hc_2, hf⟩ := bnd_some hf
  refine rVv (R := rmX5_tellStripe) (As := [.int (1 : Int32)]) (rest := []) F hP hS hl (mX5_leave l G F.2.2.2.2 (1 : Int32) _ _ _ hc_2) gX5_tellStripe_X5_leave rfl hdX5_leave rfl rfl rfl ⟨Nat.le_of_ble_eq_true rfl, Nat.le_of_ble_eq_true rfl⟩ (by decide) rfl rfl rfl (Nat.le_of_ble_eq_true rfl) ⟨Nat.le_of_ble_eq_true rfl, Nat.le_of_ble_eq_true rfl⟩ dX5_tellStripe_2 (fun H locs hP hS => ?_)
  refine lv_aload_n F.1.1 F.1.2.1 dX5_tellStripe_5 rfl (lv_at hl 1 rfl) ?_
  refine gt_0_1 F hP j1 sj1 inX5_tellStripe_0 kX5_tellStripe_86 dX5_tellStripe_6 ?_
  exact retI F hP hS dX5_tellStripe_9 hf
abbrev rmX5_tellTrellis : Room := { frames := 2, cells := 0, slots := 0, locals := 42 }
theorem hdX5_tellTrellis : yX5_tellTrellis.cls = RX5 ∧ yX5_tellTrellis.cls ≠ "java/lang/invoke/MethodHandle" ∧ yX5_tellTrellis.cls ≠ "java/lang/invoke/VarHandle" ∧ (parseMethodDescriptor yX5_tellTrellis.desc).map (fun d => d.parameters.length) = some 1 := by decide +kernel
set_option maxHeartbeats 4000000 in
set_option maxRecDepth 100000 in
theorem mX5_tellTrellis (l : Launch) (G : GT) (hG : GD G) (j1 : Nat) (sj1 : sh j1 = 0) (μ : Mem) (r : Int32) (μ' : Mem) (hf : fX5_tellTrellis j1 μ = some (r, μ')) : Ct l yX5_tellTrellis wsX5_tellTrellis rmX5_tellTrellis G [.ref (ga G 0), .ref (ga G j1)] μ (some (.int r)) μ' := by
  refine Ct.of (cc := cX5_tellTrellis) (maxL := 2) (ret := (some .int)) (own := RX5) hG (by decide) rfl rfl (Nat.le_of_ble_eq_true rfl) ?_
  intro p e s m args below meth c ls H locs F hl hP hS
  have hl : lv_has ls 2 [(0, .ref (ga G 0)), (1, .ref (ga G j1))] := hl
  unfold fX5_tellTrellis at hf
  refine lv_aload_n F.1.1 F.1.2.1 dX5_tellTrellis_0 rfl (lv_at hl 0 rfl) ?_
  refine lv_iconst (v := (2 : Int32)) F.1.1 F.1.2.1 dX5_tellTrellis_1 (by decide) ?_
  obtain ⟨u_3, μ_1, hc_2, hf⟩ := bnd_some hf
  refine rVv (R := rmX5_tellTrellis) (As := [.int (2 : Int32)]) (rest := []) F hP hS hl (mX5_leave l G F.2.2.2.2 (2 : Int32) _ _ _ hc_2) gX5_tellTrellis_X5_leave rfl hdX5_leave rfl rfl rfl ⟨Nat.le_of_ble_eq_true rfl, Nat.le_of_ble_eq_true rfl⟩ (by decide) rfl rfl rfl (Nat.le_of_ble_eq_true rfl) ⟨Nat.le_of_ble_eq_true rfl, Nat.le_of_ble_eq_true rfl⟩ dX5_tellTrellis_2 (fun H locs hP hS => ?_)
  refine lv_aload_n F.1.1 F.1.2.1 dX5_tellTrellis_5 rfl (lv_at hl 0 rfl) ?_
  refine lv_aload_n F.1.1 F.1.2.1 dX5_tellTrellis_6 rfl (lv_at hl 1 rfl) ?_
  obtain ⟨r_6, μ_4, hc_5, hf⟩ := bnd_some hf
  refine rV1 (R := rmX5_tellTrellis) (As := [.ref (ga G j1)]) (rest := []) F hP hS hl (mX5_tellStripe l G F.2.2.2.2 j1 sj1 _ _ _ hc_5) gX5_tellTrellis_X5_tellStripe rfl hdX5_tellStripe rfl rfl rfl ⟨Nat.le_of_ble_eq_true rfl, Nat.le_of_ble_eq_true rfl⟩ (by decide) rfl rfl rfl (Nat.le_of_ble_eq_true rfl) ⟨Nat.le_of_ble_eq_true rfl, Nat.le_of_ble_eq_true rfl⟩ dX5_tellTrellis_7 (fun H locs hP hS => ?_)
  refine lv_bipush (v := (100 : Int32)) F.1.1 F.1.2.1 dX5_tellTrellis_10 (by decide) ?_
  refine lv_iadd F.1.1 F.1.2.1 dX5_tellTrellis_12 ?_
  exact retI F hP hS dX5_tellTrellis_13 hf
abbrev rmX5_tellRed : Room := { frames := 3, cells := 0, slots := 0, locals := 63 }
theorem hdX5_tellRed : yX5_tellRed.cls = RX5 ∧ yX5_tellRed.cls ≠ "java/lang/invoke/MethodHandle" ∧ yX5_tellRed.cls ≠ "java/lang/invoke/VarHandle" ∧ (parseMethodDescriptor yX5_tellRed.desc).map (fun d => d.parameters.length) = some 1 := by decide +kernel
set_option maxHeartbeats 4000000 in
set_option maxRecDepth 100000 in
theorem mX5_tellRed (l : Launch) (G : GT) (hG : GD G) (j1 : Nat) (sj1 : sh j1 = 0) (μ : Mem) (r : Int32) (μ' : Mem) (hf : fX5_tellRed j1 μ = some (r, μ')) : Ct l yX5_tellRed wsX5_tellRed rmX5_tellRed G [.ref (ga G 0), .ref (ga G j1)] μ (some (.int r)) μ' := by
  refine Ct.of (cc := cX5_tellRed) (maxL := 3) (ret := (some .int)) (own := RX5) hG (by decide) rfl rfl (Nat.le_of_ble_eq_true rfl) ?_
  intro p e s m args below meth c ls H locs F hl hP hS
  have hl : lv_has ls 3 [(0, .ref (ga G 0)), (1, .ref (ga G j1))] := hl
  unfold fX5_tellRed at hf
  refine lv_aload_n F.1.1 F.1.2.1 dX5_tellRed_0 rfl (lv_at hl 0 rfl) ?_
  refine lv_iconst (v := (3 : Int32)) F.1.1 F.1.2.1 dX5_tellRed_1 (by decide) ?_
  obtain ⟨u_3, μ_1, hc_2, hf⟩ := bnd_some hf
  refine rVv (R := rmX5_tellRed) (As := [.int (3 : Int32)]) (rest := []) F hP hS hl (mX5_leave l G F.2.2.2.2 (3 : Int32) _ _ _ hc_2) gX5_tellRed_X5_leave rfl hdX5_leave rfl rfl rfl ⟨Nat.le_of_ble_eq_true rfl, Nat.le_of_ble_eq_true rfl⟩ (by decide) rfl rfl rfl (Nat.le_of_ble_eq_true rfl) ⟨Nat.le_of_ble_eq_true rfl, Nat.le_of_ble_eq_true rfl⟩ dX5_tellRed_2 (fun H locs hP hS => ?_)
  refine lv_aload_n F.1.1 F.1.2.1 dX5_tellRed_5 rfl (lv_at hl 0 rfl) ?_
  refine lv_aload_n F.1.1 F.1.2.1 dX5_tellRed_6 rfl (lv_at hl 1 rfl) ?_
  obtain ⟨r_6, μ_4, hc_5, hf⟩ := bnd_some hf
  refine rV1 (R := rmX5_tellRed) (As := [.ref (ga G j1)]) (rest := []) F hP hS hl (mX5_tellTrellis l G F.2.2.2.2 j1 sj1 _ _ _ hc_5) gX5_tellRed_X5_tellTrellis rfl hdX5_tellTrellis rfl rfl rfl ⟨Nat.le_of_ble_eq_true rfl, Nat.le_of_ble_eq_true rfl⟩ (by decide) rfl rfl rfl (Nat.le_of_ble_eq_true rfl) ⟨Nat.le_of_ble_eq_true rfl, Nat.le_of_ble_eq_true rfl⟩ dX5_tellRed_7 (fun H locs hP hS => ?_)
  refine lv_istore_n (lv' := [(2, .int r_6), (0, .ref (ga G 0)), (1, .ref (ga G j1))]) F.1.1 F.1.2.1 dX5_tellRed_10 rfl hl (by decide) rfl (fun ls hl => ?_)
  refine lv_iload_n F.1.1 F.1.2.1 dX5_tellRed_11 rfl (lv_at hl 0 rfl) ?_
  refine lv_aload_n F.1.1 F.1.2.1 dX5_tellRed_12 rfl (lv_at hl 1 rfl) ?_
  refine lv_aload_n F.1.1 F.1.2.1 dX5_tellRed_13 rfl (lv_at hl 2 rfl) ?_
  obtain ⟨r_9, μ_7, hc_8, hf⟩ := bnd_some hf
  refine rV1 (R := rmX5_tellRed) (As := [.ref (ga G j1)]) (rest := [.int r_6]) F hP hS hl (mX5_tellStripe l G F.2.2.2.2 j1 sj1 _ _ _ hc_8) gX5_tellRed_X5_tellStripe rfl hdX5_tellStripe rfl rfl rfl ⟨Nat.le_of_ble_eq_true rfl, Nat.le_of_ble_eq_true rfl⟩ (by decide) rfl rfl rfl (Nat.le_of_ble_eq_true rfl) ⟨Nat.le_of_ble_eq_true rfl, Nat.le_of_ble_eq_true rfl⟩ dX5_tellRed_14 (fun H locs hP hS => ?_)
  refine lv_iadd F.1.1 F.1.2.1 dX5_tellRed_17 ?_
  exact retI F hP hS dX5_tellRed_18 hf
abbrev rmX5_tell : Room := { frames := 4, cells := 0, slots := 0, locals := 85 }
theorem hdX5_tell : yX5_tell.cls = RX5 ∧ yX5_tell.cls ≠ "java/lang/invoke/MethodHandle" ∧ yX5_tell.cls ≠ "java/lang/invoke/VarHandle" ∧ (parseMethodDescriptor yX5_tell.desc).map (fun d => d.parameters.length) = some 1 := by decide +kernel
theorem kX5_tell_12 : Cond.fieldLink RX5 12 "PaperLayers" "now" "LPaperLayers$Wall;" ∈ wsX5_tell := List.mem_cons_of_mem _ (List.mem_append_left _ (List.mem_append_left _ (List.mem_append_left _ (List.mem_append_left _ (List.mem_of_getElem? (i := 0) rfl)))))
theorem kX5_tell_81 : Cond.fieldLink RX5 81 "PaperLayers$Layer" "kind" "I" ∈ wsX5_tell := List.mem_cons_of_mem _ (List.mem_append_left _ (List.mem_append_left _ (List.mem_append_left _ (List.mem_append_left _ (List.mem_of_getElem? (i := 1) rfl)))))
theorem inX5_tell_0 : ∀ w ∈ wsX00, w ∈ wsX5_tell := fun _ h => List.mem_cons_of_mem _ (List.mem_append_left _ (List.mem_append_right _ (h)))
theorem inX5_tell_5 : ∀ w ∈ wsX50, w ∈ wsX5_tell := fun _ h => List.mem_cons_of_mem _ (List.mem_append_left _ (List.mem_append_left _ (List.mem_append_right _ (h))))
set_option maxHeartbeats 4000000 in
set_option maxRecDepth 100000 in
theorem mX5_tell (l : Launch) (G : GT) (hG : GD G) (x1 : Int32) (μ : Mem) (r : Int32) (μ' : Mem) (hf : fX5_tell x1 μ = some (r, μ')) : Ct l yX5_tell wsX5_tell rmX5_tell G [.ref (ga G 0), .int x1] μ (some (.int r)) μ' := by
  refine Ct.of (cc := cX5_tell) (maxL := 3) (ret := (some .int)) (own := RX5) hG (by decide) rfl rfl (Nat.le_of_ble_eq_true rfl) ?_
  intro p e s m args below meth c ls H locs F hl hP hS
  have hl : lv_has ls 3 [(0, .ref (ga G 0)), (1, .int x1)] := hl
  unfold fX5_tell at hf
  refine lv_aload_n F.1.1 F.1.2.1 dX5_tell_0 rfl (lv_at hl 0 rfl) ?_
  refine gt_5_0 F hP 0 rfl inX5_tell_5 kX5_tell_12 dX5_tell_1 ?_
  refine lv_iload_n F.1.1 F.1.2.1 dX5_tell_4 rfl (lv_at hl 1 rfl) ?_
  obtain ⟨r_3, μ_1, hc_2, hf⟩ := bnd_some hf
  refine rV1 (R := rmX5_tell) (As := [.int x1]) (rest := []) F hP hS hl (mX4_layerAt l G F.2.2.2.2 1 rfl x1 _ _ _ hc_2) gX5_tell_X4_layerAt rfl hdX4_layerAt rfl rfl rfl ⟨Nat.le_of_ble_eq_true rfl, Nat.le_of_ble_eq_true rfl⟩ (by decide) rfl rfl rfl (Nat.le_of_ble_eq_true rfl) ⟨Nat.le_of_ble_eq_true rfl, Nat.le_of_ble_eq_true rfl⟩ dX5_tell_5 (fun H locs hP hS => ?_)
  refine top_o hf (fun hf => ?_) (fun i_4 ho_5 hf => ?_)
  · refine lv_astore_nN (lv' := [(2, .null), (0, .ref (ga G 0)), (1, .int x1)]) F.1.1 F.1.2.1 dX5_tell_8 rfl hl (by decide) rfl (fun ls hl => ?_)
    refine lv_aload_nN F.1.1 F.1.2.1 dX5_tell_9 rfl (lv_at hl 0 rfl) ?_
    refine lv_ifnonnullN F.1.1 F.1.2.1 dX5_tell_10 ?_
    refine lv_iconst (v := (-1 : Int32)) F.1.1 F.1.2.1 dX5_tell_13 (by decide) ?_
    exact retI F hP hS dX5_tell_14 hf
  · have s_6 := shX4_layerAt_r rfl (ho_5 ▸ hc_2)
    refine lv_astore_n (lv' := [(2, .ref (ga G i_4)), (0, .ref (ga G 0)), (1, .int x1)]) F.1.1 F.1.2.1 dX5_tell_8 rfl hl (by decide) rfl (fun ls hl => ?_)
    refine lv_aload_n F.1.1 F.1.2.1 dX5_tell_9 rfl (lv_at hl 0 rfl) ?_
    refine lv_ifnonnull (tgt := 15) F.1.1 F.1.2.1 dX5_tell_10 (by decide) ?_
    refine lv_aload_n F.1.1 F.1.2.1 dX5_tell_15 rfl (lv_at hl 0 rfl) ?_
    refine gt_0_0 F hP i_4 s_6 inX5_tell_0 kX5_tell_81 dX5_tell_16 ?_
    refine split_sw (k := (1 : Int32)) hf (fun hk0 hf => ?_) (fun hn0 hf => ?_)
    · refine lv_lookup (tgt := 50) (off := 31) F.1.1 F.1.2.1 dX5_tell_19 (by decide) (by rw [hk0]; decide) (by decide) ?_
      refine lv_aload_n F.1.1 F.1.2.1 dX5_tell_50 rfl (lv_at hl 1 rfl) ?_
      refine lv_aload_n F.1.1 F.1.2.1 dX5_tell_51 rfl (lv_at hl 0 rfl) ?_
      obtain ⟨r_9, μ_7, hc_8, hf⟩ := bnd_some hf
      refine rV1 (R := rmX5_tell) (As := [.ref (ga G i_4)]) (rest := []) F hP hS hl (mX5_tellTrellis l G F.2.2.2.2 i_4 s_6 _ _ _ hc_8) gX5_tell_X5_tellTrellis rfl hdX5_tellTrellis rfl rfl rfl ⟨Nat.le_of_ble_eq_true rfl, Nat.le_of_ble_eq_true rfl⟩ (by decide) rfl rfl rfl (Nat.le_of_ble_eq_true rfl) ⟨Nat.le_of_ble_eq_true rfl, Nat.le_of_ble_eq_true rfl⟩ dX5_tell_52 (fun H locs hP hS => ?_)
      exact retI F hP hS dX5_tell_55 hf
    refine split_sw (k := (2 : Int32)) hf (fun hk1 hf => ?_) (fun hn1 hf => ?_)
    · refine lv_lookup (tgt := 44) (off := 25) F.1.1 F.1.2.1 dX5_tell_19 (by decide) (by rw [hk1]; decide) (by decide) ?_
      refine lv_aload_n F.1.1 F.1.2.1 dX5_tell_44 rfl (lv_at hl 1 rfl) ?_
      refine lv_aload_n F.1.1 F.1.2.1 dX5_tell_45 rfl (lv_at hl 0 rfl) ?_
      obtain ⟨r_12, μ_10, hc_11, hf⟩ := bnd_some hf
      refine rV1 (R := rmX5_tell) (As := [.ref (ga G i_4)]) (rest := []) F hP hS hl (mX5_tellRed l G F.2.2.2.2 i_4 s_6 _ _ _ hc_11) gX5_tell_X5_tellRed rfl hdX5_tellRed rfl rfl rfl ⟨Nat.le_of_ble_eq_true rfl, Nat.le_of_ble_eq_true rfl⟩ (by decide) rfl rfl rfl (Nat.le_of_ble_eq_true rfl) ⟨Nat.le_of_ble_eq_true rfl, Nat.le_of_ble_eq_true rfl⟩ dX5_tell_46 (fun H locs hP hS => ?_)
      exact retI F hP hS dX5_tell_49 hf
    refine lv_lookup (tgt := 56) (off := 37) F.1.1 F.1.2.1 dX5_tell_19 (by decide) (by refine (lv_osw hn0 (by decide)).trans ?_; refine (lv_osw hn1 (by decide)).trans ?_; rfl) (by decide) ?_
    refine lv_aload_n F.1.1 F.1.2.1 dX5_tell_56 rfl (lv_at hl 1 rfl) ?_
    refine lv_aload_n F.1.1 F.1.2.1 dX5_tell_57 rfl (lv_at hl 0 rfl) ?_
    obtain ⟨r_15, μ_13, hc_14, hf⟩ := bnd_some hf
    refine rV1 (R := rmX5_tell) (As := [.ref (ga G i_4)]) (rest := []) F hP hS hl (mX5_tellStripe l G F.2.2.2.2 i_4 s_6 _ _ _ hc_14) gX5_tell_X5_tellStripe rfl hdX5_tellStripe rfl rfl rfl ⟨Nat.le_of_ble_eq_true rfl, Nat.le_of_ble_eq_true rfl⟩ (by decide) rfl rfl rfl (Nat.le_of_ble_eq_true rfl) ⟨Nat.le_of_ble_eq_true rfl, Nat.le_of_ble_eq_true rfl⟩ dX5_tell_58 (fun H locs hP hS => ?_)
    exact retI F hP hS dX5_tell_61 hf
