abbrev rmX6_paste : Room := { frames := 2, cells := 0, slots := 0, locals := 42 }
theorem hdX6_paste : yX6_paste.cls = RX6 ∧ yX6_paste.cls ≠ "java/lang/invoke/MethodHandle" ∧ yX6_paste.cls ≠ "java/lang/invoke/VarHandle" ∧ (parseMethodDescriptor yX6_paste.desc).map (fun d => d.parameters.length) = some 2 := by decide +kernel
theorem kX6_paste_22 : Cond.fieldLink RX6 22 "PaperLayersModel" "hold" "[I" ∈ wsX6_paste := List.mem_cons_of_mem _ (List.mem_append_left _ (List.mem_of_getElem? (i := 0) rfl))
theorem inX6_paste_6 : ∀ w ∈ wsX60, w ∈ wsX6_paste := fun _ h => List.mem_cons_of_mem _ (List.mem_append_right _ (h))
set_option maxHeartbeats 4000000 in
set_option maxRecDepth 100000 in
theorem mX6_paste (l : Launch) (G : GT) (hG : GD G) (x1 : Int32) (x2 : Int32) (μ : Mem) (r : Int32) (μ' : Mem) (hf : fX6_paste x1 x2 μ = some (r, μ')) : Ct l yX6_paste wsX6_paste rmX6_paste G [.ref (ga G 31), .int x1, .int x2] μ (some (.int r)) μ' := by
  refine Ct.of (cc := cX6_paste) (maxL := 4) (ret := (some .int)) (own := RX6) hG (by decide) rfl rfl (Nat.le_of_ble_eq_true rfl) ?_
  intro p e s m args below meth c ls H locs F hl hP hS
  have hl : lv_has ls 4 [(0, .ref (ga G 31)), (1, .int x1), (2, .int x2)] := hl
  unfold fX6_paste at hf
  refine lv_aload_n F.1.1 F.1.2.1 dX6_paste_0 rfl (lv_at hl 0 rfl) ?_
  refine lv_iload_n F.1.1 F.1.2.1 dX6_paste_1 rfl (lv_at hl 1 rfl) ?_
  obtain ⟨r_3, μ_1, hc_2, hf⟩ := bnd_some hf
  refine rV1 (R := rmX6_paste) (As := [.int x1]) (rest := []) F hP hS hl (mX6_isLayer l G F.2.2.2.2 x1 _ _ _ hc_2) gX6_paste_X6_isLayer rfl hdX6_isLayer rfl rfl rfl ⟨Nat.le_of_ble_eq_true rfl, Nat.le_of_ble_eq_true rfl⟩ (by decide) rfl rfl rfl (Nat.le_of_ble_eq_true rfl) ⟨Nat.le_of_ble_eq_true rfl, Nat.le_of_ble_eq_true rfl⟩ dX6_paste_2 (fun H locs hP hS => ?_)
  refine jz_ne (tgt := 10) F dX6_paste_5 (by decide) hf (fun hf => ?_) (fun hf => ?_)
  · refine lv_iload_n F.1.1 F.1.2.1 dX6_paste_10 rfl (lv_at hl 2 rfl) ?_
    obtain ⟨r_6, μ_4, hc_5, hf⟩ := bnd_some hf
    refine rS1 (R := rmX6_paste) (As := [.int x2]) (rest := []) F hP hS hl (mX6_isDigit l G F.2.2.2.2 x2 _ _ _ hc_5) gX6_paste_X6_isDigit hdX6_isDigit rfl rfl rfl ⟨Nat.le_of_ble_eq_true rfl, Nat.le_of_ble_eq_true rfl⟩ rfl rfl (Nat.le_of_ble_eq_true rfl) ⟨Nat.le_of_ble_eq_true rfl, Nat.le_of_ble_eq_true rfl⟩ dX6_paste_11 (fun H locs hP hS => ?_)
    refine jz_ne (tgt := 20) F dX6_paste_14 (by decide) hf (fun hf => ?_) (fun hf => ?_)
    · refine lv_aload_n F.1.1 F.1.2.1 dX6_paste_20 rfl (lv_at hl 0 rfl) ?_
      refine gt_6_9 F hP 31 rfl inX6_paste_6 kX6_paste_22 dX6_paste_21 ?_
      refine lv_iload_n F.1.1 F.1.2.1 dX6_paste_24 rfl (lv_at hl 1 rfl) ?_
      refine r_ial F hP 36 rfl rfl dX6_paste_25 hf (fun hf => ?_)
      refine top_i hf (fun y_7 hf => ?_)
      refine lv_istore_n (lv' := [(3, .int y_7), (0, .ref (ga G 31)), (1, .int x1), (2, .int x2)]) F.1.1 F.1.2.1 dX6_paste_26 rfl hl (by decide) rfl (fun ls hl => ?_)
      refine lv_aload_n F.1.1 F.1.2.1 dX6_paste_27 rfl (lv_at hl 1 rfl) ?_
      refine gt_6_9 F hP 31 rfl inX6_paste_6 kX6_paste_22 dX6_paste_28 ?_
      refine lv_iload_n F.1.1 F.1.2.1 dX6_paste_31 rfl (lv_at hl 2 rfl) ?_
      refine lv_iload_n F.1.1 F.1.2.1 dX6_paste_32 rfl (lv_at hl 3 rfl) ?_
      refine r_ias F hP hS 36 rfl rfl dX6_paste_33 hf (fun μ_8 H locs hP hS hf => ?_)
      refine lv_iload_n F.1.1 F.1.2.1 dX6_paste_34 rfl (lv_at hl 0 rfl) ?_
      exact retI F hP hS dX6_paste_35 hf
    · refine lv_bipush (v := (-2 : Int32)) F.1.1 F.1.2.1 dX6_paste_17 (by decide) ?_
      exact retI F hP hS dX6_paste_19 hf
  · refine lv_iconst (v := (-1 : Int32)) F.1.1 F.1.2.1 dX6_paste_8 (by decide) ?_
    exact retI F hP hS dX6_paste_9 hf
abbrev rmX6_heard : Room := { frames := 4, cells := 0, slots := 0, locals := 94 }
theorem hdX6_heard : yX6_heard.cls = RX6 ∧ yX6_heard.cls ≠ "java/lang/invoke/MethodHandle" ∧ yX6_heard.cls ≠ "java/lang/invoke/VarHandle" ∧ (parseMethodDescriptor yX6_heard.desc).map (fun d => d.parameters.length) = some 0 := by decide +kernel
theorem kX6_heard_56 : Cond.fieldLink RX6 56 "PaperLayersModel" "layers" "I" ∈ wsX6_heard := List.mem_cons_of_mem _ (List.mem_append_left _ (List.mem_append_left _ (List.mem_of_getElem? (i := 0) rfl)))
theorem inX6_heard_6 : ∀ w ∈ wsX60, w ∈ wsX6_heard := fun _ h => List.mem_cons_of_mem _ (List.mem_append_right _ (h))
set_option maxHeartbeats 4000000 in
set_option maxRecDepth 100000 in
theorem mX6_heard (l : Launch) (G : GT) (hG : GD G) (μ : Mem) (r : Int32) (μ' : Mem) (hf : fX6_heard μ = some (r, μ')) : Ct l yX6_heard wsX6_heard rmX6_heard G [.ref (ga G 31)] μ (some (.int r)) μ' := by
  refine Ct.of (cc := cX6_heard) (maxL := 1) (ret := (some .int)) (own := RX6) hG (by decide) rfl rfl (Nat.le_of_ble_eq_true rfl) ?_
  intro p e s m args below meth c ls H locs F hl hP hS
  have hl : lv_has ls 1 [(0, .ref (ga G 31))] := hl
  unfold fX6_heard at hf
  refine lv_aload_n F.1.1 F.1.2.1 dX6_heard_0 rfl (lv_at hl 0 rfl) ?_
  refine gt_6_5 F hP 31 rfl inX6_heard_6 kX6_heard_56 dX6_heard_1 ?_
  refine jz_ne (tgt := 12) F dX6_heard_4 (by decide) hf (fun hf => ?_) (fun hf => ?_)
  · refine lv_aload_n F.1.1 F.1.2.1 dX6_heard_12 rfl (lv_at hl 0 rfl) ?_
    obtain ⟨r_3, μ_1, hc_2, hf⟩ := bnd_some hf
    refine rV1 (R := rmX6_heard) (As := []) (rest := []) F hP hS hl (mX6_heardNow l G F.2.2.2.2  _ _ _ hc_2) gX6_heard_X6_heardNow rfl hdX6_heardNow rfl rfl rfl ⟨Nat.le_of_ble_eq_true rfl, Nat.le_of_ble_eq_true rfl⟩ (by decide) rfl rfl rfl (Nat.le_of_ble_eq_true rfl) ⟨Nat.le_of_ble_eq_true rfl, Nat.le_of_ble_eq_true rfl⟩ dX6_heard_13 (fun H locs hP hS => ?_)
    exact retI F hP hS dX6_heard_16 hf
  · refine lv_bipush (v := (-3 : Int32)) F.1.1 F.1.2.1 dX6_heard_7 (by decide) ?_
    refine lv_goto (tgt := 16) F.1.1 F.1.2.1 dX6_heard_9 (by decide) ?_
    exact retI F hP hS dX6_heard_16 hf
abbrev rmX6_counsel : Room := { frames := 4, cells := 0, slots := 0, locals := 102 }
theorem hdX6_counsel : yX6_counsel.cls = RX6 ∧ yX6_counsel.cls ≠ "java/lang/invoke/MethodHandle" ∧ yX6_counsel.cls ≠ "java/lang/invoke/VarHandle" ∧ (parseMethodDescriptor yX6_counsel.desc).map (fun d => d.parameters.length) = some 2 := by decide +kernel
theorem kX6_counsel_56 : Cond.fieldLink RX6 56 "PaperLayersModel" "layers" "I" ∈ wsX6_counsel := List.mem_cons_of_mem _ (List.mem_append_left _ (List.mem_append_left _ (List.mem_of_getElem? (i := 0) rfl)))
theorem inX6_counsel_6 : ∀ w ∈ wsX60, w ∈ wsX6_counsel := fun _ h => List.mem_cons_of_mem _ (List.mem_append_right _ (h))
set_option maxHeartbeats 4000000 in
set_option maxRecDepth 100000 in
theorem mX6_counsel (l : Launch) (G : GT) (hG : GD G) (x1 : Int32) (x2 : Int32) (μ : Mem) (r : Int32) (μ' : Mem) (hf : fX6_counsel x1 x2 μ = some (r, μ')) : Ct l yX6_counsel wsX6_counsel rmX6_counsel G [.ref (ga G 31), .int x1, .int x2] μ (some (.int r)) μ' := by
  refine Ct.of (cc := cX6_counsel) (maxL := 3) (ret := (some .int)) (own := RX6) hG (by decide) rfl rfl (Nat.le_of_ble_eq_true rfl) ?_
  intro p e s m args below meth c ls H locs F hl hP hS
  have hl : lv_has ls 3 [(0, .ref (ga G 31)), (1, .int x1), (2, .int x2)] := hl
  unfold fX6_counsel at hf
  refine lv_iload_n F.1.1 F.1.2.1 dX6_counsel_0 rfl (lv_at hl 1 rfl) ?_
  refine lv_iconst (v := (0 : Int32)) F.1.1 F.1.2.1 dX6_counsel_1 (by decide) ?_
  refine lv_bipush (v := (20 : Int32)) F.1.1 F.1.2.1 dX6_counsel_2 (by decide) ?_
  obtain ⟨r_3, μ_1, hc_2, hf⟩ := bnd_some hf
  refine rS1 (R := rmX6_counsel) (As := [.int x1, .int (0 : Int32), .int (20 : Int32)]) (rest := []) F hP hS hl (mX6_within l G F.2.2.2.2 x1 (0 : Int32) (20 : Int32) _ _ _ hc_2) gX6_counsel_X6_within hdX6_within rfl rfl rfl ⟨Nat.le_of_ble_eq_true rfl, Nat.le_of_ble_eq_true rfl⟩ rfl rfl (Nat.le_of_ble_eq_true rfl) ⟨Nat.le_of_ble_eq_true rfl, Nat.le_of_ble_eq_true rfl⟩ dX6_counsel_4 (fun H locs hP hS => ?_)
  refine jz_eq (tgt := 17) F dX6_counsel_7 (by decide) hf (fun hf => ?_) (fun hf => ?_)
  · refine lv_bipush (v := (-2 : Int32)) F.1.1 F.1.2.1 dX6_counsel_17 (by decide) ?_
    exact retI F hP hS dX6_counsel_19 hf
  · refine lv_iload_n F.1.1 F.1.2.1 dX6_counsel_10 rfl (lv_at hl 2 rfl) ?_
    obtain ⟨r_6, μ_4, hc_5, hf⟩ := bnd_some hf
    refine rS1 (R := rmX6_counsel) (As := [.int x2]) (rest := []) F hP hS hl (mX6_isDigit l G F.2.2.2.2 x2 _ _ _ hc_5) gX6_counsel_X6_isDigit hdX6_isDigit rfl rfl rfl ⟨Nat.le_of_ble_eq_true rfl, Nat.le_of_ble_eq_true rfl⟩ rfl rfl (Nat.le_of_ble_eq_true rfl) ⟨Nat.le_of_ble_eq_true rfl, Nat.le_of_ble_eq_true rfl⟩ dX6_counsel_11 (fun H locs hP hS => ?_)
    refine jz_ne (tgt := 20) F dX6_counsel_14 (by decide) hf (fun hf => ?_) (fun hf => ?_)
    · refine lv_aload_n F.1.1 F.1.2.1 dX6_counsel_20 rfl (lv_at hl 0 rfl) ?_
      refine gt_6_5 F hP 31 rfl inX6_counsel_6 kX6_counsel_56 dX6_counsel_21 ?_
      refine jz_ne (tgt := 30) F dX6_counsel_24 (by decide) hf (fun hf => ?_) (fun hf => ?_)
      · refine lv_aload_n F.1.1 F.1.2.1 dX6_counsel_30 rfl (lv_at hl 0 rfl) ?_
        obtain ⟨u_9, μ_7, hc_8, hf⟩ := bnd_some hf
        refine rVv (R := rmX6_counsel) (As := []) (rest := []) F hP hS hl (mX6_orderAsIs l G F.2.2.2.2  _ _ _ hc_8) gX6_counsel_X6_orderAsIs rfl hdX6_orderAsIs rfl rfl rfl ⟨Nat.le_of_ble_eq_true rfl, Nat.le_of_ble_eq_true rfl⟩ (by decide) rfl rfl rfl (Nat.le_of_ble_eq_true rfl) ⟨Nat.le_of_ble_eq_true rfl, Nat.le_of_ble_eq_true rfl⟩ dX6_counsel_31 (fun H locs hP hS => ?_)
        refine lv_aload_n F.1.1 F.1.2.1 dX6_counsel_34 rfl (lv_at hl 0 rfl) ?_
        refine lv_iload_n F.1.1 F.1.2.1 dX6_counsel_35 rfl (lv_at hl 1 rfl) ?_
        refine lv_iload_n F.1.1 F.1.2.1 dX6_counsel_36 rfl (lv_at hl 2 rfl) ?_
        refine lv_iconst (v := (0 : Int32)) F.1.1 F.1.2.1 dX6_counsel_37 (by decide) ?_
        obtain ⟨r_12, μ_10, hc_11, hf⟩ := bnd_some hf
        refine rV1 (R := rmX6_counsel) (As := [.int x1, .int x2, .int (0 : Int32)]) (rest := []) F hP hS hl (mX6_counselBy l G F.2.2.2.2 x1 x2 (0 : Int32) _ _ _ hc_11) gX6_counsel_X6_counselBy rfl hdX6_counselBy rfl rfl rfl ⟨Nat.le_of_ble_eq_true rfl, Nat.le_of_ble_eq_true rfl⟩ (by decide) rfl rfl rfl (Nat.le_of_ble_eq_true rfl) ⟨Nat.le_of_ble_eq_true rfl, Nat.le_of_ble_eq_true rfl⟩ dX6_counsel_38 (fun H locs hP hS => ?_)
        exact retI F hP hS dX6_counsel_41 hf
      · refine lv_bipush (v := (-3 : Int32)) F.1.1 F.1.2.1 dX6_counsel_27 (by decide) ?_
        exact retI F hP hS dX6_counsel_29 hf
    · refine lv_bipush (v := (-2 : Int32)) F.1.1 F.1.2.1 dX6_counsel_17 (by decide) ?_
      exact retI F hP hS dX6_counsel_19 hf
abbrev rmX6_clash : Room := { frames := 4, cells := 0, slots := 0, locals := 94 }
theorem hdX6_clash : yX6_clash.cls = RX6 ∧ yX6_clash.cls ≠ "java/lang/invoke/MethodHandle" ∧ yX6_clash.cls ≠ "java/lang/invoke/VarHandle" ∧ (parseMethodDescriptor yX6_clash.desc).map (fun d => d.parameters.length) = some 1 := by decide +kernel
theorem kX6_clash_56 : Cond.fieldLink RX6 56 "PaperLayersModel" "layers" "I" ∈ wsX6_clash := List.mem_cons_of_mem _ (List.mem_append_left _ (List.mem_append_left _ (List.mem_of_getElem? (i := 0) rfl)))
theorem inX6_clash_6 : ∀ w ∈ wsX60, w ∈ wsX6_clash := fun _ h => List.mem_cons_of_mem _ (List.mem_append_right _ (h))
set_option maxHeartbeats 4000000 in
set_option maxRecDepth 100000 in
theorem lX6_clash_L41 (l : Launch) (G : GT) {p : Program} {e : Env} {s : State} {m : MethodId} {args : Array Value} {below : List Frame} {meth : Method} {c : Code} (F : Fx p s m args meth c cX6_clash 8 wsX6_clash RX6 (some .int) G) (x1 : Int32) (x2 : Int32) (x3 : Int32) (r : Int32) (μ' : Mem) : ∀ (fuel : Nat), ∀ (x4 : Int32) (x5 : Int32) (x6 : Int32) (μ : Mem) (H : Heap) (locs : List Loc) (ls : Array Slot), Hh G μ H → va_S (gA G) s.heap H locs → lv_has ls 8 [(0, .ref (ga G 31)), (1, .int x1), (2, .int x2), (3, .int x3), (4, .int x4), (5, .int x5), (6, .int x6)] → fX6_clash_L41 x1 x2 x3 fuel x4 x5 x6 μ = some (r, μ') → W p l e rmX6_clash s m args below meth c H locs 0 0 (MQ below (Qg G (some (.int r)) μ') args s 0 0 (gA G)) (F0 m 41 ls []) := by
  intro fuel
  induction fuel with
  | zero =>
    intro x4 x5 x6 μ H locs ls hP hS hl hf
    exact absurd hf (by intro h; cases h)
  | succ fuel ih41 =>
    intro x4 x5 x6 μ H locs ls hP hS hl hf
    have hf : sX6_clash_L41 (fX6_clash_L41 x1 x2 x3 fuel) x1 x2 x3 x4 x5 x6 μ = some (r, μ') := hf
    unfold sX6_clash_L41 at hf
    refine lv_iload F.1.1 F.1.2.1 dX6_clash_41 (lv_at hl 6 rfl) ?_
    refine lv_bipush (v := (9 : Int32)) F.1.1 F.1.2.1 dX6_clash_43 (by decide) ?_
    refine jc_gt (tgt := 93) F dX6_clash_45 (by decide) hf (fun hf => ?_) (fun hf => ?_)
    · refine lv_iload_n F.1.1 F.1.2.1 dX6_clash_93 rfl (lv_at hl 1 rfl) ?_
      refine jz_ne (tgt := 110) F dX6_clash_94 (by decide) hf (fun hf => ?_) (fun hf => ?_)
      · refine lv_iload_n F.1.1 F.1.2.1 dX6_clash_110 rfl (lv_at hl 3 rfl) ?_
        refine lv_iload F.1.1 F.1.2.1 dX6_clash_111 (lv_at hl 5 rfl) ?_
        refine lv_isub F.1.1 F.1.2.1 dX6_clash_113 ?_
        exact retI F hP hS dX6_clash_114 hf
      · refine lv_iload_n F.1.1 F.1.2.1 dX6_clash_97 rfl (lv_at hl 3 rfl) ?_
        refine lv_iload_n F.1.1 F.1.2.1 dX6_clash_98 rfl (lv_at hl 3 rfl) ?_
        refine lv_iconst (v := (1 : Int32)) F.1.1 F.1.2.1 dX6_clash_99 (by decide) ?_
        refine lv_isub F.1.1 F.1.2.1 dX6_clash_100 ?_
        refine lv_imul F.1.1 F.1.2.1 dX6_clash_101 ?_
        refine lv_iconst (v := (2 : Int32)) F.1.1 F.1.2.1 dX6_clash_102 (by decide) ?_
        refine r_div F dX6_clash_103 hf (fun hf => ?_)
        refine lv_iload F.1.1 F.1.2.1 dX6_clash_104 (lv_at hl 4 rfl) ?_
        refine lv_isub F.1.1 F.1.2.1 dX6_clash_106 ?_
        refine lv_goto (tgt := 114) F.1.1 F.1.2.1 dX6_clash_107 (by decide) ?_
        exact retI F hP hS dX6_clash_114 hf
    · refine lv_aload_n F.1.1 F.1.2.1 dX6_clash_48 rfl (lv_at hl 0 rfl) ?_
      refine lv_iload_n F.1.1 F.1.2.1 dX6_clash_49 rfl (lv_at hl 2 rfl) ?_
      refine lv_iload F.1.1 F.1.2.1 dX6_clash_50 (lv_at hl 6 rfl) ?_
      obtain ⟨r_12, μ_10, hc_11, hf⟩ := bnd_some hf
      refine rV1 (R := rmX6_clash) (As := [.int x2, .int x6]) (rest := []) F hP hS hl (mX6_givers l G F.2.2.2.2 x2 x6 _ _ _ hc_11) gX6_clash_X6_givers rfl hdX6_givers rfl rfl rfl ⟨Nat.le_of_ble_eq_true rfl, Nat.le_of_ble_eq_true rfl⟩ (by decide) rfl rfl rfl (Nat.le_of_ble_eq_true rfl) ⟨Nat.le_of_ble_eq_true rfl, Nat.le_of_ble_eq_true rfl⟩ dX6_clash_52 (fun H locs hP hS => ?_)
      refine lv_istore (lv' := [(7, .int r_12), (0, .ref (ga G 31)), (1, .int x1), (2, .int x2), (3, .int x3), (4, .int x4), (5, .int x5), (6, .int x6)]) F.1.1 F.1.2.1 dX6_clash_55 hl (by decide) rfl (fun ls hl => ?_)
      refine lv_iload F.1.1 F.1.2.1 dX6_clash_57 (lv_at hl 5 rfl) ?_
      refine lv_iload F.1.1 F.1.2.1 dX6_clash_59 (lv_at hl 0 rfl) ?_
      refine lv_iload F.1.1 F.1.2.1 dX6_clash_61 (lv_at hl 0 rfl) ?_
      refine lv_iconst (v := (1 : Int32)) F.1.1 F.1.2.1 dX6_clash_63 (by decide) ?_
      refine lv_isub F.1.1 F.1.2.1 dX6_clash_64 ?_
      refine lv_imul F.1.1 F.1.2.1 dX6_clash_65 ?_
      refine lv_iconst (v := (2 : Int32)) F.1.1 F.1.2.1 dX6_clash_66 (by decide) ?_
      refine r_div F dX6_clash_67 hf (fun hf => ?_)
      refine lv_iadd F.1.1 F.1.2.1 dX6_clash_68 ?_
      refine top_i hf (fun y_13 hf => ?_)
      refine lv_istore (lv' := [(4, .int y_13), (7, .int r_12), (0, .ref (ga G 31)), (1, .int x1), (2, .int x2), (3, .int x3), (5, .int x5), (6, .int x6)]) F.1.1 F.1.2.1 dX6_clash_69 hl (by decide) rfl (fun ls hl => ?_)
      refine lv_iload F.1.1 F.1.2.1 dX6_clash_71 (lv_at hl 1 rfl) ?_
      refine lv_iload F.1.1 F.1.2.1 dX6_clash_73 (lv_at hl 6 rfl) ?_
      refine jc_le (tgt := 83) F dX6_clash_75 (by decide) hf (fun hf => ?_) (fun hf => ?_)
      · refine lv_iload F.1.1 F.1.2.1 dX6_clash_83 (lv_at hl 6 rfl) ?_
        refine lv_istore (lv' := [(5, .int x5), (4, .int y_13), (7, .int r_12), (0, .ref (ga G 31)), (1, .int x1), (2, .int x2), (3, .int x3), (6, .int x6)]) F.1.1 F.1.2.1 dX6_clash_85 hl (by decide) rfl (fun ls hl => ?_)
        refine top_n hf (fun y_14 ey_14 hf => ?_)
        refine lv_iinc (v := y_14) (lv' := [(6, .int y_14), (5, .int x5), (4, .int y_13), (7, .int r_12), (0, .ref (ga G 31)), (1, .int x1), (2, .int x2), (3, .int x3)]) F.1.1 F.1.2.1 dX6_clash_87 hl (k := 7) rfl ey_14 (by decide) rfl (fun ls hl => ?_)
        refine lv_goto (tgt := 41) F.1.1 F.1.2.1 dX6_clash_90 (by decide) ?_
        exact ih41 y_13 x5 y_14 μ_10 H locs ls hP hS (lv_sub hl [4, 5, 6, 7, 2, 1, 0] rfl) hf
      · refine lv_iload F.1.1 F.1.2.1 dX6_clash_78 (lv_at hl 1 rfl) ?_
        refine lv_goto (tgt := 85) F.1.1 F.1.2.1 dX6_clash_80 (by decide) ?_
        refine lv_istore (lv' := [(5, .int r_12), (4, .int y_13), (7, .int r_12), (0, .ref (ga G 31)), (1, .int x1), (2, .int x2), (3, .int x3), (6, .int x6)]) F.1.1 F.1.2.1 dX6_clash_85 hl (by decide) rfl (fun ls hl => ?_)
        refine top_n hf (fun y_15 ey_15 hf => ?_)
        refine lv_iinc (v := y_15) (lv' := [(6, .int y_15), (5, .int r_12), (4, .int y_13), (7, .int r_12), (0, .ref (ga G 31)), (1, .int x1), (2, .int x2), (3, .int x3)]) F.1.1 F.1.2.1 dX6_clash_87 hl (k := 7) rfl ey_15 (by decide) rfl (fun ls hl => ?_)
        refine lv_goto (tgt := 41) F.1.1 F.1.2.1 dX6_clash_90 (by decide) ?_
        exact ih41 y_13 r_12 y_15 μ_10 H locs ls hP hS (lv_sub hl [4, 5, 6, 7, 2, 1, 0] rfl) hf
set_option maxHeartbeats 4000000 in
set_option maxRecDepth 100000 in
theorem mX6_clash (l : Launch) (G : GT) (hG : GD G) (x1 : Int32) (μ : Mem) (r : Int32) (μ' : Mem) (hf : fX6_clash x1 μ = some (r, μ')) : Ct l yX6_clash wsX6_clash rmX6_clash G [.ref (ga G 31), .int x1] μ (some (.int r)) μ' := by
  refine Ct.of (cc := cX6_clash) (maxL := 8) (ret := (some .int)) (own := RX6) hG (by decide) rfl rfl (Nat.le_of_ble_eq_true rfl) ?_
  intro p e s m args below meth c ls H locs F hl hP hS
  have hl : lv_has ls 8 [(0, .ref (ga G 31)), (1, .int x1)] := hl
  unfold fX6_clash at hf
  refine lv_iload_n F.1.1 F.1.2.1 dX6_clash_0 rfl (lv_at hl 1 rfl) ?_
  refine lv_iconst (v := (0 : Int32)) F.1.1 F.1.2.1 dX6_clash_1 (by decide) ?_
  refine lv_iconst (v := (1 : Int32)) F.1.1 F.1.2.1 dX6_clash_2 (by decide) ?_
  obtain ⟨r_3, μ_1, hc_2, hf⟩ := bnd_some hf
  refine rS1 (R := rmX6_clash) (As := [.int x1, .int (0 : Int32), .int (1 : Int32)]) (rest := []) F hP hS hl (mX6_within l G F.2.2.2.2 x1 (0 : Int32) (1 : Int32) _ _ _ hc_2) gX6_clash_X6_within hdX6_within rfl rfl rfl ⟨Nat.le_of_ble_eq_true rfl, Nat.le_of_ble_eq_true rfl⟩ rfl rfl (Nat.le_of_ble_eq_true rfl) ⟨Nat.le_of_ble_eq_true rfl, Nat.le_of_ble_eq_true rfl⟩ dX6_clash_3 (fun H locs hP hS => ?_)
  refine jz_ne (tgt := 12) F dX6_clash_6 (by decide) hf (fun hf => ?_) (fun hf => ?_)
  · refine lv_aload_n F.1.1 F.1.2.1 dX6_clash_12 rfl (lv_at hl 0 rfl) ?_
    refine gt_6_5 F hP 31 rfl inX6_clash_6 kX6_clash_56 dX6_clash_13 ?_
    refine jz_ne (tgt := 22) F dX6_clash_16 (by decide) hf (fun hf => ?_) (fun hf => ?_)
    · refine lv_aload_n F.1.1 F.1.2.1 dX6_clash_22 rfl (lv_at hl 0 rfl) ?_
      obtain ⟨r_6, μ_4, hc_5, hf⟩ := bnd_some hf
      refine rV1 (R := rmX6_clash) (As := []) (rest := []) F hP hS hl (mX6_heardNow l G F.2.2.2.2  _ _ _ hc_5) gX6_clash_X6_heardNow rfl hdX6_heardNow rfl rfl rfl ⟨Nat.le_of_ble_eq_true rfl, Nat.le_of_ble_eq_true rfl⟩ (by decide) rfl rfl rfl (Nat.le_of_ble_eq_true rfl) ⟨Nat.le_of_ble_eq_true rfl, Nat.le_of_ble_eq_true rfl⟩ dX6_clash_23 (fun H locs hP hS => ?_)
      refine lv_istore_n (lv' := [(2, .int r_6), (0, .ref (ga G 31)), (1, .int x1)]) F.1.1 F.1.2.1 dX6_clash_26 rfl hl (by decide) rfl (fun ls hl => ?_)
      refine lv_iload_n F.1.1 F.1.2.1 dX6_clash_27 rfl (lv_at hl 0 rfl) ?_
      obtain ⟨r_9, μ_7, hc_8, hf⟩ := bnd_some hf
      refine rS1 (R := rmX6_clash) (As := [.int r_6]) (rest := []) F hP hS hl (mX6_size l G F.2.2.2.2 r_6 _ _ _ hc_8) gX6_clash_X6_size hdX6_size rfl rfl rfl ⟨Nat.le_of_ble_eq_true rfl, Nat.le_of_ble_eq_true rfl⟩ rfl rfl (Nat.le_of_ble_eq_true rfl) ⟨Nat.le_of_ble_eq_true rfl, Nat.le_of_ble_eq_true rfl⟩ dX6_clash_28 (fun H locs hP hS => ?_)
      refine lv_istore_n (lv' := [(3, .int r_9), (2, .int r_6), (0, .ref (ga G 31)), (1, .int x1)]) F.1.1 F.1.2.1 dX6_clash_31 rfl hl (by decide) rfl (fun ls hl => ?_)
      refine lv_iconst (v := (0 : Int32)) F.1.1 F.1.2.1 dX6_clash_32 (by decide) ?_
      refine lv_istore (lv' := [(4, .int (0 : Int32)), (3, .int r_9), (2, .int r_6), (0, .ref (ga G 31)), (1, .int x1)]) F.1.1 F.1.2.1 dX6_clash_33 hl (by decide) rfl (fun ls hl => ?_)
      refine lv_iconst (v := (0 : Int32)) F.1.1 F.1.2.1 dX6_clash_35 (by decide) ?_
      refine lv_istore (lv' := [(5, .int (0 : Int32)), (4, .int (0 : Int32)), (3, .int r_9), (2, .int r_6), (0, .ref (ga G 31)), (1, .int x1)]) F.1.1 F.1.2.1 dX6_clash_36 hl (by decide) rfl (fun ls hl => ?_)
      refine lv_iconst (v := (0 : Int32)) F.1.1 F.1.2.1 dX6_clash_38 (by decide) ?_
      refine lv_istore (lv' := [(6, .int (0 : Int32)), (5, .int (0 : Int32)), (4, .int (0 : Int32)), (3, .int r_9), (2, .int r_6), (0, .ref (ga G 31)), (1, .int x1)]) F.1.1 F.1.2.1 dX6_clash_39 hl (by decide) rfl (fun ls hl => ?_)
      exact lX6_clash_L41 l G F x1 r_6 r_9 _ _ FU (0 : Int32) (0 : Int32) (0 : Int32) μ_7 H locs ls hP hS (lv_sub hl [5, 6, 4, 3, 2, 1, 0] rfl) hf
    · refine lv_bipush (v := (-3 : Int32)) F.1.1 F.1.2.1 dX6_clash_19 (by decide) ?_
      exact retI F hP hS dX6_clash_21 hf
  · refine lv_bipush (v := (-2 : Int32)) F.1.1 F.1.2.1 dX6_clash_9 (by decide) ?_
    exact retI F hP hS dX6_clash_11 hf
abbrev rmX6_putOn : Room := { frames := 0, cells := 0, slots := 0, locals := 0 }
theorem hdX6_putOn : yX6_putOn.cls = RX6 ∧ yX6_putOn.cls ≠ "java/lang/invoke/MethodHandle" ∧ yX6_putOn.cls ≠ "java/lang/invoke/VarHandle" ∧ (parseMethodDescriptor yX6_putOn.desc).map (fun d => d.parameters.length) = some 3 := by decide +kernel
theorem kX6_putOn_19 : Cond.fieldLink RX6 19 "PaperLayersModel" "kind" "[I" ∈ wsX6_putOn := List.mem_cons_of_mem _ (List.mem_append_left _ (List.mem_of_getElem? (i := 1) rfl))
theorem kX6_putOn_22 : Cond.fieldLink RX6 22 "PaperLayersModel" "hold" "[I" ∈ wsX6_putOn := List.mem_cons_of_mem _ (List.mem_append_left _ (List.mem_of_getElem? (i := 2) rfl))
theorem kX6_putOn_25 : Cond.fieldLink RX6 25 "PaperLayersModel" "advice" "[I" ∈ wsX6_putOn := List.mem_cons_of_mem _ (List.mem_append_left _ (List.mem_of_getElem? (i := 3) rfl))
theorem kX6_putOn_56 : Cond.fieldLink RX6 56 "PaperLayersModel" "layers" "I" ∈ wsX6_putOn := List.mem_cons_of_mem _ (List.mem_append_left _ (List.mem_of_getElem? (i := 0) rfl))
theorem inX6_putOn_6 : ∀ w ∈ wsX60, w ∈ wsX6_putOn := fun _ h => List.mem_cons_of_mem _ (List.mem_append_right _ (h))
set_option maxHeartbeats 4000000 in
set_option maxRecDepth 100000 in
theorem lX6_putOn_L6 (l : Launch) (G : GT) {p : Program} {e : Env} {s : State} {m : MethodId} {args : Array Value} {below : List Frame} {meth : Method} {c : Code} (F : Fx p s m args meth c cX6_putOn 5 wsX6_putOn RX6 none G) (x1 : Int32) (x2 : Int32) (x3 : Int32) (r : Unit) (μ' : Mem) : ∀ (fuel : Nat), ∀ (x4 : Int32) (μ : Mem) (H : Heap) (locs : List Loc) (ls : Array Slot), Hh G μ H → va_S (gA G) s.heap H locs → lv_has ls 5 [(0, .ref (ga G 31)), (1, .int x1), (2, .int x2), (3, .int x3), (4, .int x4)] → fX6_putOn_L6 x1 x2 x3 fuel x4 μ = some (r, μ') → W p l e rmX6_putOn s m args below meth c H locs 0 0 (MQ below (Qg G none μ') args s 0 0 (gA G)) (F0 m 6 ls []) := by
  intro fuel
  induction fuel with
  | zero =>
    intro x4 μ H locs ls hP hS hl hf
    exact absurd hf (by intro h; cases h)
  | succ fuel ih6 =>
    intro x4 μ H locs ls hP hS hl hf
    have hf : sX6_putOn_L6 (fX6_putOn_L6 x1 x2 x3 fuel) x1 x2 x3 x4 μ = some (r, μ') := hf
    unfold sX6_putOn_L6 at hf
    refine lv_iload F.1.1 F.1.2.1 dX6_putOn_6 (lv_at hl 4 rfl) ?_
    refine jz_le (tgt := 65) F dX6_putOn_8 (by decide) hf (fun hf => ?_) (fun hf => ?_)
    · refine lv_aload_n F.1.1 F.1.2.1 dX6_putOn_65 rfl (lv_at hl 0 rfl) ?_
      refine gt_6_8 F hP 31 rfl inX6_putOn_6 kX6_putOn_19 dX6_putOn_66 ?_
      refine lv_iconst (v := (0 : Int32)) F.1.1 F.1.2.1 dX6_putOn_69 (by decide) ?_
      refine lv_iload_n F.1.1 F.1.2.1 dX6_putOn_70 rfl (lv_at hl 1 rfl) ?_
      refine r_ias F hP hS 35 rfl rfl dX6_putOn_71 hf (fun μ_2 H locs hP hS hf => ?_)
      refine lv_aload_n F.1.1 F.1.2.1 dX6_putOn_72 rfl (lv_at hl 0 rfl) ?_
      refine gt_6_9 F hP 31 rfl inX6_putOn_6 kX6_putOn_22 dX6_putOn_73 ?_
      refine lv_iconst (v := (0 : Int32)) F.1.1 F.1.2.1 dX6_putOn_76 (by decide) ?_
      refine lv_iload_n F.1.1 F.1.2.1 dX6_putOn_77 rfl (lv_at hl 2 rfl) ?_
      refine r_ias F hP hS 36 rfl rfl dX6_putOn_78 hf (fun μ_3 H locs hP hS hf => ?_)
      refine lv_aload_n F.1.1 F.1.2.1 dX6_putOn_79 rfl (lv_at hl 0 rfl) ?_
      refine gt_6_10 F hP 31 rfl inX6_putOn_6 kX6_putOn_25 dX6_putOn_80 ?_
      refine lv_iconst (v := (0 : Int32)) F.1.1 F.1.2.1 dX6_putOn_83 (by decide) ?_
      refine lv_iload_n F.1.1 F.1.2.1 dX6_putOn_84 rfl (lv_at hl 3 rfl) ?_
      refine r_ias F hP hS 37 rfl rfl dX6_putOn_85 hf (fun μ_4 H locs hP hS hf => ?_)
      refine lv_aload_n F.1.1 F.1.2.1 dX6_putOn_86 rfl (lv_at hl 0 rfl) ?_
      refine lv_dup F.1.1 F.1.2.1 dX6_putOn_87 rfl ?_
      refine gt_6_5 F hP 31 rfl inX6_putOn_6 kX6_putOn_56 dX6_putOn_88 ?_
      refine lv_iconst (v := (1 : Int32)) F.1.1 F.1.2.1 dX6_putOn_91 (by decide) ?_
      refine lv_iadd F.1.1 F.1.2.1 dX6_putOn_92 ?_
      refine pt_6_5 F hP hS 31 rfl inX6_putOn_6 kX6_putOn_56 dX6_putOn_93 hf (fun μ_5 H locs hP hS hf => ?_)
      exact retV F hP hS dX6_putOn_96 hf
    · refine lv_aload_n F.1.1 F.1.2.1 dX6_putOn_11 rfl (lv_at hl 0 rfl) ?_
      refine gt_6_8 F hP 31 rfl inX6_putOn_6 kX6_putOn_19 dX6_putOn_12 ?_
      refine lv_iload F.1.1 F.1.2.1 dX6_putOn_15 (lv_at hl 4 rfl) ?_
      refine lv_aload_n F.1.1 F.1.2.1 dX6_putOn_17 rfl (lv_at hl 0 rfl) ?_
      refine gt_6_8 F hP 31 rfl inX6_putOn_6 kX6_putOn_19 dX6_putOn_18 ?_
      refine lv_iload F.1.1 F.1.2.1 dX6_putOn_21 (lv_at hl 4 rfl) ?_
      refine lv_iconst (v := (1 : Int32)) F.1.1 F.1.2.1 dX6_putOn_23 (by decide) ?_
      refine lv_isub F.1.1 F.1.2.1 dX6_putOn_24 ?_
      refine r_ial F hP 35 rfl rfl dX6_putOn_25 hf (fun hf => ?_)
      refine r_ias F hP hS 35 rfl rfl dX6_putOn_26 hf (fun μ_6 H locs hP hS hf => ?_)
      refine lv_aload_n F.1.1 F.1.2.1 dX6_putOn_27 rfl (lv_at hl 0 rfl) ?_
      refine gt_6_9 F hP 31 rfl inX6_putOn_6 kX6_putOn_22 dX6_putOn_28 ?_
      refine lv_iload F.1.1 F.1.2.1 dX6_putOn_31 (lv_at hl 4 rfl) ?_
      refine lv_aload_n F.1.1 F.1.2.1 dX6_putOn_33 rfl (lv_at hl 0 rfl) ?_
      refine gt_6_9 F hP 31 rfl inX6_putOn_6 kX6_putOn_22 dX6_putOn_34 ?_
      refine lv_iload F.1.1 F.1.2.1 dX6_putOn_37 (lv_at hl 4 rfl) ?_
      refine lv_iconst (v := (1 : Int32)) F.1.1 F.1.2.1 dX6_putOn_39 (by decide) ?_
      refine lv_isub F.1.1 F.1.2.1 dX6_putOn_40 ?_
      refine r_ial F hP 36 rfl rfl dX6_putOn_41 hf (fun hf => ?_)
      refine r_ias F hP hS 36 rfl rfl dX6_putOn_42 hf (fun μ_7 H locs hP hS hf => ?_)
      refine lv_aload_n F.1.1 F.1.2.1 dX6_putOn_43 rfl (lv_at hl 0 rfl) ?_
      refine gt_6_10 F hP 31 rfl inX6_putOn_6 kX6_putOn_25 dX6_putOn_44 ?_
      refine lv_iload F.1.1 F.1.2.1 dX6_putOn_47 (lv_at hl 4 rfl) ?_
      refine lv_aload_n F.1.1 F.1.2.1 dX6_putOn_49 rfl (lv_at hl 0 rfl) ?_
      refine gt_6_10 F hP 31 rfl inX6_putOn_6 kX6_putOn_25 dX6_putOn_50 ?_
      refine lv_iload F.1.1 F.1.2.1 dX6_putOn_53 (lv_at hl 4 rfl) ?_
      refine lv_iconst (v := (1 : Int32)) F.1.1 F.1.2.1 dX6_putOn_55 (by decide) ?_
      refine lv_isub F.1.1 F.1.2.1 dX6_putOn_56 ?_
      refine r_ial F hP 37 rfl rfl dX6_putOn_57 hf (fun hf => ?_)
      refine r_ias F hP hS 37 rfl rfl dX6_putOn_58 hf (fun μ_8 H locs hP hS hf => ?_)
      refine top_n hf (fun y_9 ey_9 hf => ?_)
      refine lv_iinc (v := y_9) (lv' := [(4, .int y_9), (0, .ref (ga G 31)), (1, .int x1), (2, .int x2), (3, .int x3)]) F.1.1 F.1.2.1 dX6_putOn_59 hl (k := 4) rfl ey_9 (by decide) rfl (fun ls hl => ?_)
      refine lv_goto (tgt := 6) F.1.1 F.1.2.1 dX6_putOn_62 (by decide) ?_
      exact ih6 y_9 μ_8 H locs ls hP hS (lv_sub hl [1, 2, 3, 4, 0] rfl) hf
set_option maxHeartbeats 4000000 in
set_option maxRecDepth 100000 in
theorem mX6_putOn (l : Launch) (G : GT) (hG : GD G) (x1 : Int32) (x2 : Int32) (x3 : Int32) (μ : Mem) (r : Unit) (μ' : Mem) (hf : fX6_putOn x1 x2 x3 μ = some (r, μ')) : Ct l yX6_putOn wsX6_putOn rmX6_putOn G [.ref (ga G 31), .int x1, .int x2, .int x3] μ none μ' := by
  refine Ct.of (cc := cX6_putOn) (maxL := 5) (ret := none) (own := RX6) hG (by decide) rfl rfl (Nat.le_of_ble_eq_true rfl) ?_
  intro p e s m args below meth c ls H locs F hl hP hS
  have hl : lv_has ls 5 [(0, .ref (ga G 31)), (1, .int x1), (2, .int x2), (3, .int x3)] := hl
  unfold fX6_putOn at hf
  refine lv_aload_n F.1.1 F.1.2.1 dX6_putOn_0 rfl (lv_at hl 0 rfl) ?_
  refine gt_6_5 F hP 31 rfl inX6_putOn_6 kX6_putOn_56 dX6_putOn_1 ?_
  refine top_i hf (fun y_1 hf => ?_)
  refine lv_istore (lv' := [(4, .int y_1), (0, .ref (ga G 31)), (1, .int x1), (2, .int x2), (3, .int x3)]) F.1.1 F.1.2.1 dX6_putOn_4 hl (by decide) rfl (fun ls hl => ?_)
  exact lX6_putOn_L6 l G F x1 x2 x3 _ _ FU y_1 μ H locs ls hP hS (lv_sub hl [1, 2, 3, 4, 0] rfl) hf
abbrev rmX6_takeOff : Room := { frames := 0, cells := 0, slots := 0, locals := 0 }
theorem hdX6_takeOff : yX6_takeOff.cls = RX6 ∧ yX6_takeOff.cls ≠ "java/lang/invoke/MethodHandle" ∧ yX6_takeOff.cls ≠ "java/lang/invoke/VarHandle" ∧ (parseMethodDescriptor yX6_takeOff.desc).map (fun d => d.parameters.length) = some 0 := by decide +kernel
theorem kX6_takeOff_19 : Cond.fieldLink RX6 19 "PaperLayersModel" "kind" "[I" ∈ wsX6_takeOff := List.mem_cons_of_mem _ (List.mem_append_left _ (List.mem_of_getElem? (i := 2) rfl))
theorem kX6_takeOff_22 : Cond.fieldLink RX6 22 "PaperLayersModel" "hold" "[I" ∈ wsX6_takeOff := List.mem_cons_of_mem _ (List.mem_append_left _ (List.mem_of_getElem? (i := 3) rfl))
theorem kX6_takeOff_25 : Cond.fieldLink RX6 25 "PaperLayersModel" "advice" "[I" ∈ wsX6_takeOff := List.mem_cons_of_mem _ (List.mem_append_left _ (List.mem_of_getElem? (i := 0) rfl))
theorem kX6_takeOff_56 : Cond.fieldLink RX6 56 "PaperLayersModel" "layers" "I" ∈ wsX6_takeOff := List.mem_cons_of_mem _ (List.mem_append_left _ (List.mem_of_getElem? (i := 1) rfl))
theorem inX6_takeOff_6 : ∀ w ∈ wsX60, w ∈ wsX6_takeOff := fun _ h => List.mem_cons_of_mem _ (List.mem_append_right _ (h))
set_option maxHeartbeats 4000000 in
set_option maxRecDepth 100000 in
theorem lX6_takeOff_L19 (l : Launch) (G : GT) {p : Program} {e : Env} {s : State} {m : MethodId} {args : Array Value} {below : List Frame} {meth : Method} {c : Code} (F : Fx p s m args meth c cX6_takeOff 3 wsX6_takeOff RX6 (some .int) G) (x1 : Int32) (r : Int32) (μ' : Mem) : ∀ (fuel : Nat), ∀ (x2 : Int32) (μ : Mem) (H : Heap) (locs : List Loc) (ls : Array Slot), Hh G μ H → va_S (gA G) s.heap H locs → lv_has ls 3 [(0, .ref (ga G 31)), (1, .int x1), (2, .int x2)] → fX6_takeOff_L19 x1 fuel x2 μ = some (r, μ') → W p l e rmX6_takeOff s m args below meth c H locs 0 0 (MQ below (Qg G (some (.int r)) μ') args s 0 0 (gA G)) (F0 m 19 ls []) := by
  intro fuel
  induction fuel with
  | zero =>
    intro x2 μ H locs ls hP hS hl hf
    exact absurd hf (by intro h; cases h)
  | succ fuel ih19 =>
    intro x2 μ H locs ls hP hS hl hf
    have hf : sX6_takeOff_L19 (fX6_takeOff_L19 x1 fuel) x1 x2 μ = some (r, μ') := hf
    unfold sX6_takeOff_L19 at hf
    refine lv_iload_n F.1.1 F.1.2.1 dX6_takeOff_19 rfl (lv_at hl 2 rfl) ?_
    refine lv_aload_n F.1.1 F.1.2.1 dX6_takeOff_20 rfl (lv_at hl 0 rfl) ?_
    refine gt_6_5 F hP 31 rfl inX6_takeOff_6 kX6_takeOff_56 dX6_takeOff_21 ?_
    refine jc_ge (tgt := 75) F dX6_takeOff_24 (by decide) hf (fun hf => ?_) (fun hf => ?_)
    · refine lv_iload_n F.1.1 F.1.2.1 dX6_takeOff_75 rfl (lv_at hl 1 rfl) ?_
      exact retI F hP hS dX6_takeOff_76 hf
    · refine lv_aload_n F.1.1 F.1.2.1 dX6_takeOff_27 rfl (lv_at hl 0 rfl) ?_
      refine gt_6_8 F hP 31 rfl inX6_takeOff_6 kX6_takeOff_19 dX6_takeOff_28 ?_
      refine lv_iload_n F.1.1 F.1.2.1 dX6_takeOff_31 rfl (lv_at hl 2 rfl) ?_
      refine lv_aload_n F.1.1 F.1.2.1 dX6_takeOff_32 rfl (lv_at hl 0 rfl) ?_
      refine gt_6_8 F hP 31 rfl inX6_takeOff_6 kX6_takeOff_19 dX6_takeOff_33 ?_
      refine lv_iload_n F.1.1 F.1.2.1 dX6_takeOff_36 rfl (lv_at hl 2 rfl) ?_
      refine lv_iconst (v := (1 : Int32)) F.1.1 F.1.2.1 dX6_takeOff_37 (by decide) ?_
      refine lv_iadd F.1.1 F.1.2.1 dX6_takeOff_38 ?_
      refine r_ial F hP 35 rfl rfl dX6_takeOff_39 hf (fun hf => ?_)
      refine r_ias F hP hS 35 rfl rfl dX6_takeOff_40 hf (fun μ_3 H locs hP hS hf => ?_)
      refine lv_aload_n F.1.1 F.1.2.1 dX6_takeOff_41 rfl (lv_at hl 0 rfl) ?_
      refine gt_6_9 F hP 31 rfl inX6_takeOff_6 kX6_takeOff_22 dX6_takeOff_42 ?_
      refine lv_iload_n F.1.1 F.1.2.1 dX6_takeOff_45 rfl (lv_at hl 2 rfl) ?_
      refine lv_aload_n F.1.1 F.1.2.1 dX6_takeOff_46 rfl (lv_at hl 0 rfl) ?_
      refine gt_6_9 F hP 31 rfl inX6_takeOff_6 kX6_takeOff_22 dX6_takeOff_47 ?_
      refine lv_iload_n F.1.1 F.1.2.1 dX6_takeOff_50 rfl (lv_at hl 2 rfl) ?_
      refine lv_iconst (v := (1 : Int32)) F.1.1 F.1.2.1 dX6_takeOff_51 (by decide) ?_
      refine lv_iadd F.1.1 F.1.2.1 dX6_takeOff_52 ?_
      refine r_ial F hP 36 rfl rfl dX6_takeOff_53 hf (fun hf => ?_)
      refine r_ias F hP hS 36 rfl rfl dX6_takeOff_54 hf (fun μ_4 H locs hP hS hf => ?_)
      refine lv_aload_n F.1.1 F.1.2.1 dX6_takeOff_55 rfl (lv_at hl 0 rfl) ?_
      refine gt_6_10 F hP 31 rfl inX6_takeOff_6 kX6_takeOff_25 dX6_takeOff_56 ?_
      refine lv_iload_n F.1.1 F.1.2.1 dX6_takeOff_59 rfl (lv_at hl 2 rfl) ?_
      refine lv_aload_n F.1.1 F.1.2.1 dX6_takeOff_60 rfl (lv_at hl 0 rfl) ?_
      refine gt_6_10 F hP 31 rfl inX6_takeOff_6 kX6_takeOff_25 dX6_takeOff_61 ?_
      refine lv_iload_n F.1.1 F.1.2.1 dX6_takeOff_64 rfl (lv_at hl 2 rfl) ?_
      refine lv_iconst (v := (1 : Int32)) F.1.1 F.1.2.1 dX6_takeOff_65 (by decide) ?_
      refine lv_iadd F.1.1 F.1.2.1 dX6_takeOff_66 ?_
      refine r_ial F hP 37 rfl rfl dX6_takeOff_67 hf (fun hf => ?_)
      refine r_ias F hP hS 37 rfl rfl dX6_takeOff_68 hf (fun μ_5 H locs hP hS hf => ?_)
      refine top_n hf (fun y_6 ey_6 hf => ?_)
      refine lv_iinc (v := y_6) (lv' := [(2, .int y_6), (0, .ref (ga G 31)), (1, .int x1)]) F.1.1 F.1.2.1 dX6_takeOff_69 hl (k := 2) rfl ey_6 (by decide) rfl (fun ls hl => ?_)
      refine lv_goto (tgt := 19) F.1.1 F.1.2.1 dX6_takeOff_72 (by decide) ?_
      exact ih19 y_6 μ_5 H locs ls hP hS (lv_sub hl [1, 2, 0] rfl) hf
set_option maxHeartbeats 4000000 in
set_option maxRecDepth 100000 in
theorem mX6_takeOff (l : Launch) (G : GT) (hG : GD G) (μ : Mem) (r : Int32) (μ' : Mem) (hf : fX6_takeOff μ = some (r, μ')) : Ct l yX6_takeOff wsX6_takeOff rmX6_takeOff G [.ref (ga G 31)] μ (some (.int r)) μ' := by
  refine Ct.of (cc := cX6_takeOff) (maxL := 3) (ret := (some .int)) (own := RX6) hG (by decide) rfl rfl (Nat.le_of_ble_eq_true rfl) ?_
  intro p e s m args below meth c ls H locs F hl hP hS
  have hl : lv_has ls 3 [(0, .ref (ga G 31))] := hl
  unfold fX6_takeOff at hf
  refine lv_aload_n F.1.1 F.1.2.1 dX6_takeOff_0 rfl (lv_at hl 0 rfl) ?_
  refine gt_6_10 F hP 31 rfl inX6_takeOff_6 kX6_takeOff_25 dX6_takeOff_1 ?_
  refine lv_iconst (v := (0 : Int32)) F.1.1 F.1.2.1 dX6_takeOff_4 (by decide) ?_
  refine r_ial F hP 37 rfl rfl dX6_takeOff_5 hf (fun hf => ?_)
  refine top_i hf (fun y_1 hf => ?_)
  refine lv_istore_n (lv' := [(1, .int y_1), (0, .ref (ga G 31))]) F.1.1 F.1.2.1 dX6_takeOff_6 rfl hl (by decide) rfl (fun ls hl => ?_)
  refine lv_aload_n F.1.1 F.1.2.1 dX6_takeOff_7 rfl (lv_at hl 1 rfl) ?_
  refine lv_dup F.1.1 F.1.2.1 dX6_takeOff_8 rfl ?_
  refine gt_6_5 F hP 31 rfl inX6_takeOff_6 kX6_takeOff_56 dX6_takeOff_9 ?_
  refine lv_iconst (v := (1 : Int32)) F.1.1 F.1.2.1 dX6_takeOff_12 (by decide) ?_
  refine lv_isub F.1.1 F.1.2.1 dX6_takeOff_13 ?_
  refine pt_6_5 F hP hS 31 rfl inX6_takeOff_6 kX6_takeOff_56 dX6_takeOff_14 hf (fun μ_2 H locs hP hS hf => ?_)
  refine lv_iconst (v := (0 : Int32)) F.1.1 F.1.2.1 dX6_takeOff_17 (by decide) ?_
  refine lv_istore_n (lv' := [(2, .int (0 : Int32)), (1, .int y_1), (0, .ref (ga G 31))]) F.1.1 F.1.2.1 dX6_takeOff_18 rfl hl (by decide) rfl (fun ls hl => ?_)
  exact lX6_takeOff_L19 l G F y_1 _ _ FU (0 : Int32) μ_2 H locs ls hP hS (lv_sub hl [2, 1, 0] rfl) hf
abbrev rmX6_mayPeel : Room := { frames := 3, cells := 0, slots := 0, locals := 67 }
theorem hdX6_mayPeel : yX6_mayPeel.cls = RX6 ∧ yX6_mayPeel.cls ≠ "java/lang/invoke/MethodHandle" ∧ yX6_mayPeel.cls ≠ "java/lang/invoke/VarHandle" ∧ (parseMethodDescriptor yX6_mayPeel.desc).map (fun d => d.parameters.length) = some 0 := by decide +kernel
theorem kX6_mayPeel_56 : Cond.fieldLink RX6 56 "PaperLayersModel" "layers" "I" ∈ wsX6_mayPeel := List.mem_cons_of_mem _ (List.mem_append_left _ (List.mem_append_left _ (List.mem_of_getElem? (i := 0) rfl)))
theorem inX6_mayPeel_6 : ∀ w ∈ wsX60, w ∈ wsX6_mayPeel := fun _ h => List.mem_cons_of_mem _ (List.mem_append_right _ (h))
set_option maxHeartbeats 4000000 in
set_option maxRecDepth 100000 in
theorem mX6_mayPeel (l : Launch) (G : GT) (hG : GD G) (μ : Mem) (r : Int32) (μ' : Mem) (hf : fX6_mayPeel μ = some (r, μ')) : Ct l yX6_mayPeel wsX6_mayPeel rmX6_mayPeel G [.ref (ga G 31)] μ (some (.int r)) μ' := by
  refine Ct.of (cc := cX6_mayPeel) (maxL := 1) (ret := (some .boolean)) (own := RX6) hG (by decide) rfl rfl (Nat.le_of_ble_eq_true rfl) ?_
  intro p e s m args below meth c ls H locs F hl hP hS
  have hl : lv_has ls 1 [(0, .ref (ga G 31))] := hl
  unfold fX6_mayPeel at hf
  refine lv_aload_n F.1.1 F.1.2.1 dX6_mayPeel_0 rfl (lv_at hl 0 rfl) ?_
  refine gt_6_5 F hP 31 rfl inX6_mayPeel_6 kX6_mayPeel_56 dX6_mayPeel_1 ?_
  refine lv_iconst (v := (1 : Int32)) F.1.1 F.1.2.1 dX6_mayPeel_4 (by decide) ?_
  refine jc_le (tgt := 23) F dX6_mayPeel_5 (by decide) hf (fun hf => ?_) (fun hf => ?_)
  · refine lv_iconst (v := (0 : Int32)) F.1.1 F.1.2.1 dX6_mayPeel_23 (by decide) ?_
    exact retC F hP hS dX6_mayPeel_24 (by decide) hf
  · refine lv_aload_n F.1.1 F.1.2.1 dX6_mayPeel_8 rfl (lv_at hl 0 rfl) ?_
    obtain ⟨r_3, μ_1, hc_2, hf⟩ := bnd_some hf
    refine rV1 (R := rmX6_mayPeel) (As := []) (rest := []) F hP hS hl (mX6_liftedNow l G F.2.2.2.2  _ _ _ hc_2) gX6_mayPeel_X6_liftedNow rfl hdX6_liftedNow rfl rfl rfl ⟨Nat.le_of_ble_eq_true rfl, Nat.le_of_ble_eq_true rfl⟩ (by decide) rfl rfl rfl (Nat.le_of_ble_eq_true rfl) ⟨Nat.le_of_ble_eq_true rfl, Nat.le_of_ble_eq_true rfl⟩ dX6_mayPeel_9 (fun H locs hP hS => ?_)
    refine lv_iconst (v := (0 : Int32)) F.1.1 F.1.2.1 dX6_mayPeel_12 (by decide) ?_
    obtain ⟨r_6, μ_4, hc_5, hf⟩ := bnd_some hf
    refine rS1 (R := rmX6_mayPeel) (As := [.int r_3, .int (0 : Int32)]) (rest := []) F hP hS hl (mX6_isOf l G F.2.2.2.2 r_3 (0 : Int32) _ _ _ hc_5) gX6_mayPeel_X6_isOf hdX6_isOf rfl rfl rfl ⟨Nat.le_of_ble_eq_true rfl, Nat.le_of_ble_eq_true rfl⟩ rfl rfl (Nat.le_of_ble_eq_true rfl) ⟨Nat.le_of_ble_eq_true rfl, Nat.le_of_ble_eq_true rfl⟩ dX6_mayPeel_13 (fun H locs hP hS => ?_)
    refine jz_eq (tgt := 23) F dX6_mayPeel_16 (by decide) hf (fun hf => ?_) (fun hf => ?_)
    · refine lv_iconst (v := (0 : Int32)) F.1.1 F.1.2.1 dX6_mayPeel_23 (by decide) ?_
      exact retC F hP hS dX6_mayPeel_24 (by decide) hf
    · refine lv_iconst (v := (1 : Int32)) F.1.1 F.1.2.1 dX6_mayPeel_19 (by decide) ?_
      refine lv_goto (tgt := 24) F.1.1 F.1.2.1 dX6_mayPeel_20 (by decide) ?_
      exact retC F hP hS dX6_mayPeel_24 (by decide) hf
abbrev rmX6_putUp : Room := { frames := 2, cells := 0, slots := 0, locals := 42 }
theorem hdX6_putUp : yX6_putUp.cls = RX6 ∧ yX6_putUp.cls ≠ "java/lang/invoke/MethodHandle" ∧ yX6_putUp.cls ≠ "java/lang/invoke/VarHandle" ∧ (parseMethodDescriptor yX6_putUp.desc).map (fun d => d.parameters.length) = some 3 := by decide +kernel
theorem kX6_putUp_56 : Cond.fieldLink RX6 56 "PaperLayersModel" "layers" "I" ∈ wsX6_putUp := List.mem_cons_of_mem _ (List.mem_append_left _ (List.mem_of_getElem? (i := 0) rfl))
theorem inX6_putUp_6 : ∀ w ∈ wsX60, w ∈ wsX6_putUp := fun _ h => List.mem_cons_of_mem _ (List.mem_append_right _ (h))
set_option maxHeartbeats 4000000 in
set_option maxRecDepth 100000 in
theorem mX6_putUp (l : Launch) (G : GT) (hG : GD G) (x1 : Int32) (x2 : Int32) (x3 : Int32) (μ : Mem) (r : Int32) (μ' : Mem) (hf : fX6_putUp x1 x2 x3 μ = some (r, μ')) : Ct l yX6_putUp wsX6_putUp rmX6_putUp G [.ref (ga G 31), .int x1, .int x2, .int x3] μ (some (.int r)) μ' := by
  refine Ct.of (cc := cX6_putUp) (maxL := 4) (ret := (some .int)) (own := RX6) hG (by decide) rfl rfl (Nat.le_of_ble_eq_true rfl) ?_
  intro p e s m args below meth c ls H locs F hl hP hS
  have hl : lv_has ls 4 [(0, .ref (ga G 31)), (1, .int x1), (2, .int x2), (3, .int x3)] := hl
  unfold fX6_putUp at hf
  refine lv_iload_n F.1.1 F.1.2.1 dX6_putUp_0 rfl (lv_at hl 1 rfl) ?_
  refine lv_iconst (v := (0 : Int32)) F.1.1 F.1.2.1 dX6_putUp_1 (by decide) ?_
  refine lv_iconst (v := (2 : Int32)) F.1.1 F.1.2.1 dX6_putUp_2 (by decide) ?_
  obtain ⟨r_3, μ_1, hc_2, hf⟩ := bnd_some hf
  refine rS1 (R := rmX6_putUp) (As := [.int x1, .int (0 : Int32), .int (2 : Int32)]) (rest := []) F hP hS hl (mX6_within l G F.2.2.2.2 x1 (0 : Int32) (2 : Int32) _ _ _ hc_2) gX6_putUp_X6_within hdX6_within rfl rfl rfl ⟨Nat.le_of_ble_eq_true rfl, Nat.le_of_ble_eq_true rfl⟩ rfl rfl (Nat.le_of_ble_eq_true rfl) ⟨Nat.le_of_ble_eq_true rfl, Nat.le_of_ble_eq_true rfl⟩ dX6_putUp_3 (fun H locs hP hS => ?_)
  refine jz_eq (tgt := 23) F dX6_putUp_6 (by decide) hf (fun hf => ?_) (fun hf => ?_)
  · refine lv_bipush (v := (-2 : Int32)) F.1.1 F.1.2.1 dX6_putUp_23 (by decide) ?_
    exact retI F hP hS dX6_putUp_25 hf
  · refine lv_iload_n F.1.1 F.1.2.1 dX6_putUp_9 rfl (lv_at hl 2 rfl) ?_
    obtain ⟨r_6, μ_4, hc_5, hf⟩ := bnd_some hf
    refine rS1 (R := rmX6_putUp) (As := [.int x2]) (rest := []) F hP hS hl (mX6_isDigit l G F.2.2.2.2 x2 _ _ _ hc_5) gX6_putUp_X6_isDigit hdX6_isDigit rfl rfl rfl ⟨Nat.le_of_ble_eq_true rfl, Nat.le_of_ble_eq_true rfl⟩ rfl rfl (Nat.le_of_ble_eq_true rfl) ⟨Nat.le_of_ble_eq_true rfl, Nat.le_of_ble_eq_true rfl⟩ dX6_putUp_10 (fun H locs hP hS => ?_)
    refine jz_eq (tgt := 23) F dX6_putUp_13 (by decide) hf (fun hf => ?_) (fun hf => ?_)
    · refine lv_bipush (v := (-2 : Int32)) F.1.1 F.1.2.1 dX6_putUp_23 (by decide) ?_
      exact retI F hP hS dX6_putUp_25 hf
    · refine lv_iload_n F.1.1 F.1.2.1 dX6_putUp_16 rfl (lv_at hl 3 rfl) ?_
      obtain ⟨r_9, μ_7, hc_8, hf⟩ := bnd_some hf
      refine rS1 (R := rmX6_putUp) (As := [.int x3]) (rest := []) F hP hS hl (mX6_isDigit l G F.2.2.2.2 x3 _ _ _ hc_8) gX6_putUp_X6_isDigit hdX6_isDigit rfl rfl rfl ⟨Nat.le_of_ble_eq_true rfl, Nat.le_of_ble_eq_true rfl⟩ rfl rfl (Nat.le_of_ble_eq_true rfl) ⟨Nat.le_of_ble_eq_true rfl, Nat.le_of_ble_eq_true rfl⟩ dX6_putUp_17 (fun H locs hP hS => ?_)
      refine jz_ne (tgt := 26) F dX6_putUp_20 (by decide) hf (fun hf => ?_) (fun hf => ?_)
      · refine lv_aload_n F.1.1 F.1.2.1 dX6_putUp_26 rfl (lv_at hl 0 rfl) ?_
        refine gt_6_5 F hP 31 rfl inX6_putUp_6 kX6_putUp_56 dX6_putUp_27 ?_
        refine jz_ne (tgt := 36) F dX6_putUp_30 (by decide) hf (fun hf => ?_) (fun hf => ?_)
        · refine lv_aload_n F.1.1 F.1.2.1 dX6_putUp_36 rfl (lv_at hl 0 rfl) ?_
          refine gt_6_5 F hP 31 rfl inX6_putUp_6 kX6_putUp_56 dX6_putUp_37 ?_
          refine lv_bipush (v := (6 : Int32)) F.1.1 F.1.2.1 dX6_putUp_40 (by decide) ?_
          refine jc_ne (tgt := 48) F dX6_putUp_42 (by decide) hf (fun hf => ?_) (fun hf => ?_)
          · refine lv_aload_n F.1.1 F.1.2.1 dX6_putUp_48 rfl (lv_at hl 0 rfl) ?_
            refine lv_iload_n F.1.1 F.1.2.1 dX6_putUp_49 rfl (lv_at hl 1 rfl) ?_
            refine lv_iload_n F.1.1 F.1.2.1 dX6_putUp_50 rfl (lv_at hl 2 rfl) ?_
            refine lv_iload_n F.1.1 F.1.2.1 dX6_putUp_51 rfl (lv_at hl 3 rfl) ?_
            obtain ⟨u_12, μ_10, hc_11, hf⟩ := bnd_some hf
            refine rVv (R := rmX6_putUp) (As := [.int x1, .int x2, .int x3]) (rest := []) F hP hS hl (mX6_putOn l G F.2.2.2.2 x1 x2 x3 _ _ _ hc_11) gX6_putUp_X6_putOn rfl hdX6_putOn rfl rfl rfl ⟨Nat.le_of_ble_eq_true rfl, Nat.le_of_ble_eq_true rfl⟩ (by decide) rfl rfl rfl (Nat.le_of_ble_eq_true rfl) ⟨Nat.le_of_ble_eq_true rfl, Nat.le_of_ble_eq_true rfl⟩ dX6_putUp_52 (fun H locs hP hS => ?_)
            refine lv_aload_n F.1.1 F.1.2.1 dX6_putUp_55 rfl (lv_at hl 0 rfl) ?_
            refine gt_6_5 F hP 31 rfl inX6_putUp_6 kX6_putUp_56 dX6_putUp_56 ?_
            exact retI F hP hS dX6_putUp_59 hf
          · refine lv_bipush (v := (-4 : Int32)) F.1.1 F.1.2.1 dX6_putUp_45 (by decide) ?_
            exact retI F hP hS dX6_putUp_47 hf
        · refine lv_bipush (v := (-3 : Int32)) F.1.1 F.1.2.1 dX6_putUp_33 (by decide) ?_
          exact retI F hP hS dX6_putUp_35 hf
      · refine lv_bipush (v := (-2 : Int32)) F.1.1 F.1.2.1 dX6_putUp_23 (by decide) ?_
        exact retI F hP hS dX6_putUp_25 hf
abbrev rmX6_peel : Room := { frames := 4, cells := 0, slots := 0, locals := 87 }
theorem hdX6_peel : yX6_peel.cls = RX6 ∧ yX6_peel.cls ≠ "java/lang/invoke/MethodHandle" ∧ yX6_peel.cls ≠ "java/lang/invoke/VarHandle" ∧ (parseMethodDescriptor yX6_peel.desc).map (fun d => d.parameters.length) = some 0 := by decide +kernel
theorem kX6_peel_56 : Cond.fieldLink RX6 56 "PaperLayersModel" "layers" "I" ∈ wsX6_peel := List.mem_cons_of_mem _ (List.mem_append_left _ (List.mem_append_left _ (List.mem_of_getElem? (i := 0) rfl)))
theorem inX6_peel_6 : ∀ w ∈ wsX60, w ∈ wsX6_peel := fun _ h => List.mem_cons_of_mem _ (List.mem_append_right _ (h))
set_option maxHeartbeats 4000000 in
set_option maxRecDepth 100000 in
theorem mX6_peel (l : Launch) (G : GT) (hG : GD G) (μ : Mem) (r : Int32) (μ' : Mem) (hf : fX6_peel μ = some (r, μ')) : Ct l yX6_peel wsX6_peel rmX6_peel G [.ref (ga G 31)] μ (some (.int r)) μ' := by
  refine Ct.of (cc := cX6_peel) (maxL := 1) (ret := (some .int)) (own := RX6) hG (by decide) rfl rfl (Nat.le_of_ble_eq_true rfl) ?_
  intro p e s m args below meth c ls H locs F hl hP hS
  have hl : lv_has ls 1 [(0, .ref (ga G 31))] := hl
  unfold fX6_peel at hf
  refine lv_aload_n F.1.1 F.1.2.1 dX6_peel_0 rfl (lv_at hl 0 rfl) ?_
  refine gt_6_5 F hP 31 rfl inX6_peel_6 kX6_peel_56 dX6_peel_1 ?_
  refine jz_le (tgt := 21) F dX6_peel_4 (by decide) hf (fun hf => ?_) (fun hf => ?_)
  · refine lv_bipush (v := (-3 : Int32)) F.1.1 F.1.2.1 dX6_peel_21 (by decide) ?_
    exact retI F hP hS dX6_peel_23 hf
  · refine lv_aload_n F.1.1 F.1.2.1 dX6_peel_7 rfl (lv_at hl 0 rfl) ?_
    obtain ⟨r_3, μ_1, hc_2, hf⟩ := bnd_some hf
    refine rV1 (R := rmX6_peel) (As := []) (rest := []) F hP hS hl (mX6_mayPeel l G F.2.2.2.2  _ _ _ hc_2) gX6_peel_X6_mayPeel rfl hdX6_mayPeel rfl rfl rfl ⟨Nat.le_of_ble_eq_true rfl, Nat.le_of_ble_eq_true rfl⟩ (by decide) rfl rfl rfl (Nat.le_of_ble_eq_true rfl) ⟨Nat.le_of_ble_eq_true rfl, Nat.le_of_ble_eq_true rfl⟩ dX6_peel_8 (fun H locs hP hS => ?_)
    refine jz_eq (tgt := 21) F dX6_peel_11 (by decide) hf (fun hf => ?_) (fun hf => ?_)
    · refine lv_bipush (v := (-3 : Int32)) F.1.1 F.1.2.1 dX6_peel_21 (by decide) ?_
      exact retI F hP hS dX6_peel_23 hf
    · refine lv_aload_n F.1.1 F.1.2.1 dX6_peel_14 rfl (lv_at hl 0 rfl) ?_
      obtain ⟨r_6, μ_4, hc_5, hf⟩ := bnd_some hf
      refine rV1 (R := rmX6_peel) (As := []) (rest := []) F hP hS hl (mX6_takeOff l G F.2.2.2.2  _ _ _ hc_5) gX6_peel_X6_takeOff rfl hdX6_takeOff rfl rfl rfl ⟨Nat.le_of_ble_eq_true rfl, Nat.le_of_ble_eq_true rfl⟩ (by decide) rfl rfl rfl (Nat.le_of_ble_eq_true rfl) ⟨Nat.le_of_ble_eq_true rfl, Nat.le_of_ble_eq_true rfl⟩ dX6_peel_15 (fun H locs hP hS => ?_)
      refine lv_goto (tgt := 23) F.1.1 F.1.2.1 dX6_peel_18 (by decide) ?_
      exact retI F hP hS dX6_peel_23 hf
abbrev rmX6_keep : Room := { frames := 0, cells := 0, slots := 0, locals := 0 }
theorem hdX6_keep : yX6_keep.cls = RX6 ∧ yX6_keep.cls ≠ "java/lang/invoke/MethodHandle" ∧ yX6_keep.cls ≠ "java/lang/invoke/VarHandle" ∧ (parseMethodDescriptor yX6_keep.desc).map (fun d => d.parameters.length) = some 0 := by decide +kernel
theorem kX6_keep_161 : Cond.fieldLink RX6 161 "PaperLayersModel" "keptLayers" "I" ∈ wsX6_keep := List.mem_cons_of_mem _ (List.mem_append_left _ (List.mem_of_getElem? (i := 1) rfl))
theorem kX6_keep_164 : Cond.fieldLink RX6 164 "PaperLayersModel" "keptWarm" "I" ∈ wsX6_keep := List.mem_cons_of_mem _ (List.mem_append_left _ (List.mem_of_getElem? (i := 3) rfl))
theorem kX6_keep_167 : Cond.fieldLink RX6 167 "PaperLayersModel" "keptDamp" "I" ∈ wsX6_keep := List.mem_cons_of_mem _ (List.mem_append_left _ (List.mem_of_getElem? (i := 5) rfl))
theorem kX6_keep_19 : Cond.fieldLink RX6 19 "PaperLayersModel" "kind" "[I" ∈ wsX6_keep := List.mem_cons_of_mem _ (List.mem_append_left _ (List.mem_of_getElem? (i := 7) rfl))
theorem kX6_keep_22 : Cond.fieldLink RX6 22 "PaperLayersModel" "hold" "[I" ∈ wsX6_keep := List.mem_cons_of_mem _ (List.mem_append_left _ (List.mem_of_getElem? (i := 8) rfl))
theorem kX6_keep_25 : Cond.fieldLink RX6 25 "PaperLayersModel" "advice" "[I" ∈ wsX6_keep := List.mem_cons_of_mem _ (List.mem_append_left _ (List.mem_of_getElem? (i := 9) rfl))
theorem kX6_keep_34 : Cond.fieldLink RX6 34 "PaperLayersModel" "kept" "[I" ∈ wsX6_keep := List.mem_cons_of_mem _ (List.mem_append_left _ (List.mem_of_getElem? (i := 6) rfl))
theorem kX6_keep_56 : Cond.fieldLink RX6 56 "PaperLayersModel" "layers" "I" ∈ wsX6_keep := List.mem_cons_of_mem _ (List.mem_append_left _ (List.mem_of_getElem? (i := 0) rfl))
theorem kX6_keep_86 : Cond.fieldLink RX6 86 "PaperLayersModel" "warmNow" "I" ∈ wsX6_keep := List.mem_cons_of_mem _ (List.mem_append_left _ (List.mem_of_getElem? (i := 2) rfl))
theorem kX6_keep_92 : Cond.fieldLink RX6 92 "PaperLayersModel" "dampNow" "I" ∈ wsX6_keep := List.mem_cons_of_mem _ (List.mem_append_left _ (List.mem_of_getElem? (i := 4) rfl))
theorem inX6_keep_6 : ∀ w ∈ wsX60, w ∈ wsX6_keep := fun _ h => List.mem_cons_of_mem _ (List.mem_append_right _ (h))
set_option maxHeartbeats 4000000 in
set_option maxRecDepth 100000 in
theorem lX6_keep_L26 (l : Launch) (G : GT) {p : Program} {e : Env} {s : State} {m : MethodId} {args : Array Value} {below : List Frame} {meth : Method} {c : Code} (F : Fx p s m args meth c cX6_keep 2 wsX6_keep RX6 none G) (r : Unit) (μ' : Mem) : ∀ (fuel : Nat), ∀ (x1 : Int32) (μ : Mem) (H : Heap) (locs : List Loc) (ls : Array Slot), Hh G μ H → va_S (gA G) s.heap H locs → lv_has ls 2 [(0, .ref (ga G 31)), (1, .int x1)] → fX6_keep_L26 fuel x1 μ = some (r, μ') → W p l e rmX6_keep s m args below meth c H locs 0 0 (MQ below (Qg G none μ') args s 0 0 (gA G)) (F0 m 26 ls []) := by
  intro fuel
  induction fuel with
  | zero =>
    intro x1 μ H locs ls hP hS hl hf
    exact absurd hf (by intro h; cases h)
  | succ fuel ih26 =>
    intro x1 μ H locs ls hP hS hl hf
    have hf : sX6_keep_L26 (fX6_keep_L26 fuel) x1 μ = some (r, μ') := hf
    unfold sX6_keep_L26 at hf
    refine lv_iload_n F.1.1 F.1.2.1 dX6_keep_26 rfl (lv_at hl 1 rfl) ?_
    refine lv_aload_n F.1.1 F.1.2.1 dX6_keep_27 rfl (lv_at hl 0 rfl) ?_
    refine gt_6_5 F hP 31 rfl inX6_keep_6 kX6_keep_56 dX6_keep_28 ?_
    refine jc_ge (tgt := 86) F dX6_keep_31 (by decide) hf (fun hf => ?_) (fun hf => ?_)
    · exact retV F hP hS dX6_keep_86 hf
    · refine lv_aload_n F.1.1 F.1.2.1 dX6_keep_34 rfl (lv_at hl 0 rfl) ?_
      refine gt_6_17 F hP 31 rfl inX6_keep_6 kX6_keep_34 dX6_keep_35 ?_
      refine lv_iconst (v := (3 : Int32)) F.1.1 F.1.2.1 dX6_keep_38 (by decide) ?_
      refine lv_iload_n F.1.1 F.1.2.1 dX6_keep_39 rfl (lv_at hl 1 rfl) ?_
      refine lv_imul F.1.1 F.1.2.1 dX6_keep_40 ?_
      refine lv_aload_n F.1.1 F.1.2.1 dX6_keep_41 rfl (lv_at hl 0 rfl) ?_
      refine gt_6_8 F hP 31 rfl inX6_keep_6 kX6_keep_19 dX6_keep_42 ?_
      refine lv_iload_n F.1.1 F.1.2.1 dX6_keep_45 rfl (lv_at hl 1 rfl) ?_
      refine r_ial F hP 35 rfl rfl dX6_keep_46 hf (fun hf => ?_)
      refine r_ias F hP hS 40 rfl rfl dX6_keep_47 hf (fun μ_4 H locs hP hS hf => ?_)
      refine lv_aload_n F.1.1 F.1.2.1 dX6_keep_48 rfl (lv_at hl 0 rfl) ?_
      refine gt_6_17 F hP 31 rfl inX6_keep_6 kX6_keep_34 dX6_keep_49 ?_
      refine lv_iconst (v := (3 : Int32)) F.1.1 F.1.2.1 dX6_keep_52 (by decide) ?_
      refine lv_iload_n F.1.1 F.1.2.1 dX6_keep_53 rfl (lv_at hl 1 rfl) ?_
      refine lv_imul F.1.1 F.1.2.1 dX6_keep_54 ?_
      refine lv_iconst (v := (1 : Int32)) F.1.1 F.1.2.1 dX6_keep_55 (by decide) ?_
      refine lv_iadd F.1.1 F.1.2.1 dX6_keep_56 ?_
      refine lv_aload_n F.1.1 F.1.2.1 dX6_keep_57 rfl (lv_at hl 0 rfl) ?_
      refine gt_6_9 F hP 31 rfl inX6_keep_6 kX6_keep_22 dX6_keep_58 ?_
      refine lv_iload_n F.1.1 F.1.2.1 dX6_keep_61 rfl (lv_at hl 1 rfl) ?_
      refine r_ial F hP 36 rfl rfl dX6_keep_62 hf (fun hf => ?_)
      refine r_ias F hP hS 40 rfl rfl dX6_keep_63 hf (fun μ_5 H locs hP hS hf => ?_)
      refine lv_aload_n F.1.1 F.1.2.1 dX6_keep_64 rfl (lv_at hl 0 rfl) ?_
      refine gt_6_17 F hP 31 rfl inX6_keep_6 kX6_keep_34 dX6_keep_65 ?_
      refine lv_iconst (v := (3 : Int32)) F.1.1 F.1.2.1 dX6_keep_68 (by decide) ?_
      refine lv_iload_n F.1.1 F.1.2.1 dX6_keep_69 rfl (lv_at hl 1 rfl) ?_
      refine lv_imul F.1.1 F.1.2.1 dX6_keep_70 ?_
      refine lv_iconst (v := (2 : Int32)) F.1.1 F.1.2.1 dX6_keep_71 (by decide) ?_
      refine lv_iadd F.1.1 F.1.2.1 dX6_keep_72 ?_
      refine lv_aload_n F.1.1 F.1.2.1 dX6_keep_73 rfl (lv_at hl 0 rfl) ?_
      refine gt_6_10 F hP 31 rfl inX6_keep_6 kX6_keep_25 dX6_keep_74 ?_
      refine lv_iload_n F.1.1 F.1.2.1 dX6_keep_77 rfl (lv_at hl 1 rfl) ?_
      refine r_ial F hP 37 rfl rfl dX6_keep_78 hf (fun hf => ?_)
      refine r_ias F hP hS 40 rfl rfl dX6_keep_79 hf (fun μ_6 H locs hP hS hf => ?_)
      refine top_n hf (fun y_7 ey_7 hf => ?_)
      refine lv_iinc (v := y_7) (lv' := [(1, .int y_7), (0, .ref (ga G 31))]) F.1.1 F.1.2.1 dX6_keep_80 hl (k := 1) rfl ey_7 (by decide) rfl (fun ls hl => ?_)
      refine lv_goto (tgt := 26) F.1.1 F.1.2.1 dX6_keep_83 (by decide) ?_
      exact ih26 y_7 μ_6 H locs ls hP hS (lv_sub hl [1, 0] rfl) hf
set_option maxHeartbeats 4000000 in
set_option maxRecDepth 100000 in
theorem mX6_keep (l : Launch) (G : GT) (hG : GD G) (μ : Mem) (r : Unit) (μ' : Mem) (hf : fX6_keep μ = some (r, μ')) : Ct l yX6_keep wsX6_keep rmX6_keep G [.ref (ga G 31)] μ none μ' := by
  refine Ct.of (cc := cX6_keep) (maxL := 2) (ret := none) (own := RX6) hG (by decide) rfl rfl (Nat.le_of_ble_eq_true rfl) ?_
  intro p e s m args below meth c ls H locs F hl hP hS
  have hl : lv_has ls 2 [(0, .ref (ga G 31))] := hl
  unfold fX6_keep at hf
  refine lv_aload_n F.1.1 F.1.2.1 dX6_keep_0 rfl (lv_at hl 0 rfl) ?_
  refine lv_aload_n F.1.1 F.1.2.1 dX6_keep_1 rfl (lv_at hl 0 rfl) ?_
  refine gt_6_5 F hP 31 rfl inX6_keep_6 kX6_keep_56 dX6_keep_2 ?_
  refine pt_6_18 F hP hS 31 rfl inX6_keep_6 kX6_keep_161 dX6_keep_5 hf (fun μ_1 H locs hP hS hf => ?_)
  refine lv_aload_n F.1.1 F.1.2.1 dX6_keep_8 rfl (lv_at hl 0 rfl) ?_
  refine lv_aload_n F.1.1 F.1.2.1 dX6_keep_9 rfl (lv_at hl 0 rfl) ?_
  refine gt_6_6 F hP 31 rfl inX6_keep_6 kX6_keep_86 dX6_keep_10 ?_
  refine pt_6_19 F hP hS 31 rfl inX6_keep_6 kX6_keep_164 dX6_keep_13 hf (fun μ_2 H locs hP hS hf => ?_)
  refine lv_aload_n F.1.1 F.1.2.1 dX6_keep_16 rfl (lv_at hl 0 rfl) ?_
  refine lv_aload_n F.1.1 F.1.2.1 dX6_keep_17 rfl (lv_at hl 0 rfl) ?_
  refine gt_6_7 F hP 31 rfl inX6_keep_6 kX6_keep_92 dX6_keep_18 ?_
  refine pt_6_20 F hP hS 31 rfl inX6_keep_6 kX6_keep_167 dX6_keep_21 hf (fun μ_3 H locs hP hS hf => ?_)
  refine lv_iconst (v := (0 : Int32)) F.1.1 F.1.2.1 dX6_keep_24 (by decide) ?_
  refine lv_istore_n (lv' := [(1, .int (0 : Int32)), (0, .ref (ga G 31))]) F.1.1 F.1.2.1 dX6_keep_25 rfl hl (by decide) rfl (fun ls hl => ?_)
  exact lX6_keep_L26 l G F _ _ FU (0 : Int32) μ_3 H locs ls hP hS (lv_sub hl [1, 0] rfl) hf
abbrev rmX6_putBack : Room := { frames := 0, cells := 0, slots := 0, locals := 0 }
theorem hdX6_putBack : yX6_putBack.cls = RX6 ∧ yX6_putBack.cls ≠ "java/lang/invoke/MethodHandle" ∧ yX6_putBack.cls ≠ "java/lang/invoke/VarHandle" ∧ (parseMethodDescriptor yX6_putBack.desc).map (fun d => d.parameters.length) = some 0 := by decide +kernel
theorem kX6_putBack_161 : Cond.fieldLink RX6 161 "PaperLayersModel" "keptLayers" "I" ∈ wsX6_putBack := List.mem_cons_of_mem _ (List.mem_append_left _ (List.mem_of_getElem? (i := 0) rfl))
theorem kX6_putBack_164 : Cond.fieldLink RX6 164 "PaperLayersModel" "keptWarm" "I" ∈ wsX6_putBack := List.mem_cons_of_mem _ (List.mem_append_left _ (List.mem_of_getElem? (i := 2) rfl))
theorem kX6_putBack_167 : Cond.fieldLink RX6 167 "PaperLayersModel" "keptDamp" "I" ∈ wsX6_putBack := List.mem_cons_of_mem _ (List.mem_append_left _ (List.mem_of_getElem? (i := 4) rfl))
theorem kX6_putBack_19 : Cond.fieldLink RX6 19 "PaperLayersModel" "kind" "[I" ∈ wsX6_putBack := List.mem_cons_of_mem _ (List.mem_append_left _ (List.mem_of_getElem? (i := 6) rfl))
theorem kX6_putBack_22 : Cond.fieldLink RX6 22 "PaperLayersModel" "hold" "[I" ∈ wsX6_putBack := List.mem_cons_of_mem _ (List.mem_append_left _ (List.mem_of_getElem? (i := 8) rfl))
theorem kX6_putBack_25 : Cond.fieldLink RX6 25 "PaperLayersModel" "advice" "[I" ∈ wsX6_putBack := List.mem_cons_of_mem _ (List.mem_append_left _ (List.mem_of_getElem? (i := 9) rfl))
theorem kX6_putBack_34 : Cond.fieldLink RX6 34 "PaperLayersModel" "kept" "[I" ∈ wsX6_putBack := List.mem_cons_of_mem _ (List.mem_append_left _ (List.mem_of_getElem? (i := 7) rfl))
theorem kX6_putBack_56 : Cond.fieldLink RX6 56 "PaperLayersModel" "layers" "I" ∈ wsX6_putBack := List.mem_cons_of_mem _ (List.mem_append_left _ (List.mem_of_getElem? (i := 1) rfl))
theorem kX6_putBack_86 : Cond.fieldLink RX6 86 "PaperLayersModel" "warmNow" "I" ∈ wsX6_putBack := List.mem_cons_of_mem _ (List.mem_append_left _ (List.mem_of_getElem? (i := 3) rfl))
theorem kX6_putBack_92 : Cond.fieldLink RX6 92 "PaperLayersModel" "dampNow" "I" ∈ wsX6_putBack := List.mem_cons_of_mem _ (List.mem_append_left _ (List.mem_of_getElem? (i := 5) rfl))
theorem inX6_putBack_6 : ∀ w ∈ wsX60, w ∈ wsX6_putBack := fun _ h => List.mem_cons_of_mem _ (List.mem_append_right _ (h))
set_option maxHeartbeats 4000000 in
set_option maxRecDepth 100000 in
theorem lX6_putBack_L26 (l : Launch) (G : GT) {p : Program} {e : Env} {s : State} {m : MethodId} {args : Array Value} {below : List Frame} {meth : Method} {c : Code} (F : Fx p s m args meth c cX6_putBack 2 wsX6_putBack RX6 none G) (r : Unit) (μ' : Mem) : ∀ (fuel : Nat), ∀ (x1 : Int32) (μ : Mem) (H : Heap) (locs : List Loc) (ls : Array Slot), Hh G μ H → va_S (gA G) s.heap H locs → lv_has ls 2 [(0, .ref (ga G 31)), (1, .int x1)] → fX6_putBack_L26 fuel x1 μ = some (r, μ') → W p l e rmX6_putBack s m args below meth c H locs 0 0 (MQ below (Qg G none μ') args s 0 0 (gA G)) (F0 m 26 ls []) := by
  intro fuel
  induction fuel with
  | zero =>
    intro x1 μ H locs ls hP hS hl hf
    exact absurd hf (by intro h; cases h)
  | succ fuel ih26 =>
    intro x1 μ H locs ls hP hS hl hf
    have hf : sX6_putBack_L26 (fX6_putBack_L26 fuel) x1 μ = some (r, μ') := hf
    unfold sX6_putBack_L26 at hf
    refine lv_iload_n F.1.1 F.1.2.1 dX6_putBack_26 rfl (lv_at hl 1 rfl) ?_
    refine lv_aload_n F.1.1 F.1.2.1 dX6_putBack_27 rfl (lv_at hl 0 rfl) ?_
    refine gt_6_5 F hP 31 rfl inX6_putBack_6 kX6_putBack_56 dX6_putBack_28 ?_
    refine jc_ge (tgt := 86) F dX6_putBack_31 (by decide) hf (fun hf => ?_) (fun hf => ?_)
    · exact retV F hP hS dX6_putBack_86 hf
    · refine lv_aload_n F.1.1 F.1.2.1 dX6_putBack_34 rfl (lv_at hl 0 rfl) ?_
      refine gt_6_8 F hP 31 rfl inX6_putBack_6 kX6_putBack_19 dX6_putBack_35 ?_
      refine lv_iload_n F.1.1 F.1.2.1 dX6_putBack_38 rfl (lv_at hl 1 rfl) ?_
      refine lv_aload_n F.1.1 F.1.2.1 dX6_putBack_39 rfl (lv_at hl 0 rfl) ?_
      refine gt_6_17 F hP 31 rfl inX6_putBack_6 kX6_putBack_34 dX6_putBack_40 ?_
      refine lv_iconst (v := (3 : Int32)) F.1.1 F.1.2.1 dX6_putBack_43 (by decide) ?_
      refine lv_iload_n F.1.1 F.1.2.1 dX6_putBack_44 rfl (lv_at hl 1 rfl) ?_
      refine lv_imul F.1.1 F.1.2.1 dX6_putBack_45 ?_
      refine r_ial F hP 40 rfl rfl dX6_putBack_46 hf (fun hf => ?_)
      refine r_ias F hP hS 35 rfl rfl dX6_putBack_47 hf (fun μ_4 H locs hP hS hf => ?_)
      refine lv_aload_n F.1.1 F.1.2.1 dX6_putBack_48 rfl (lv_at hl 0 rfl) ?_
      refine gt_6_9 F hP 31 rfl inX6_putBack_6 kX6_putBack_22 dX6_putBack_49 ?_
      refine lv_iload_n F.1.1 F.1.2.1 dX6_putBack_52 rfl (lv_at hl 1 rfl) ?_
      refine lv_aload_n F.1.1 F.1.2.1 dX6_putBack_53 rfl (lv_at hl 0 rfl) ?_
      refine gt_6_17 F hP 31 rfl inX6_putBack_6 kX6_putBack_34 dX6_putBack_54 ?_
      refine lv_iconst (v := (3 : Int32)) F.1.1 F.1.2.1 dX6_putBack_57 (by decide) ?_
      refine lv_iload_n F.1.1 F.1.2.1 dX6_putBack_58 rfl (lv_at hl 1 rfl) ?_
      refine lv_imul F.1.1 F.1.2.1 dX6_putBack_59 ?_
      refine lv_iconst (v := (1 : Int32)) F.1.1 F.1.2.1 dX6_putBack_60 (by decide) ?_
      refine lv_iadd F.1.1 F.1.2.1 dX6_putBack_61 ?_
      refine r_ial F hP 40 rfl rfl dX6_putBack_62 hf (fun hf => ?_)
      refine r_ias F hP hS 36 rfl rfl dX6_putBack_63 hf (fun μ_5 H locs hP hS hf => ?_)
      refine lv_aload_n F.1.1 F.1.2.1 dX6_putBack_64 rfl (lv_at hl 0 rfl) ?_
      refine gt_6_10 F hP 31 rfl inX6_putBack_6 kX6_putBack_25 dX6_putBack_65 ?_
      refine lv_iload_n F.1.1 F.1.2.1 dX6_putBack_68 rfl (lv_at hl 1 rfl) ?_
      refine lv_aload_n F.1.1 F.1.2.1 dX6_putBack_69 rfl (lv_at hl 0 rfl) ?_
      refine gt_6_17 F hP 31 rfl inX6_putBack_6 kX6_putBack_34 dX6_putBack_70 ?_
      refine lv_iconst (v := (3 : Int32)) F.1.1 F.1.2.1 dX6_putBack_73 (by decide) ?_
      refine lv_iload_n F.1.1 F.1.2.1 dX6_putBack_74 rfl (lv_at hl 1 rfl) ?_
      refine lv_imul F.1.1 F.1.2.1 dX6_putBack_75 ?_
      refine lv_iconst (v := (2 : Int32)) F.1.1 F.1.2.1 dX6_putBack_76 (by decide) ?_
      refine lv_iadd F.1.1 F.1.2.1 dX6_putBack_77 ?_
      refine r_ial F hP 40 rfl rfl dX6_putBack_78 hf (fun hf => ?_)
      refine r_ias F hP hS 37 rfl rfl dX6_putBack_79 hf (fun μ_6 H locs hP hS hf => ?_)
      refine top_n hf (fun y_7 ey_7 hf => ?_)
      refine lv_iinc (v := y_7) (lv' := [(1, .int y_7), (0, .ref (ga G 31))]) F.1.1 F.1.2.1 dX6_putBack_80 hl (k := 1) rfl ey_7 (by decide) rfl (fun ls hl => ?_)
      refine lv_goto (tgt := 26) F.1.1 F.1.2.1 dX6_putBack_83 (by decide) ?_
      exact ih26 y_7 μ_6 H locs ls hP hS (lv_sub hl [1, 0] rfl) hf
set_option maxHeartbeats 4000000 in
set_option maxRecDepth 100000 in
theorem mX6_putBack (l : Launch) (G : GT) (hG : GD G) (μ : Mem) (r : Unit) (μ' : Mem) (hf : fX6_putBack μ = some (r, μ')) : Ct l yX6_putBack wsX6_putBack rmX6_putBack G [.ref (ga G 31)] μ none μ' := by
  refine Ct.of (cc := cX6_putBack) (maxL := 2) (ret := none) (own := RX6) hG (by decide) rfl rfl (Nat.le_of_ble_eq_true rfl) ?_
  intro p e s m args below meth c ls H locs F hl hP hS
  have hl : lv_has ls 2 [(0, .ref (ga G 31))] := hl
  unfold fX6_putBack at hf
  refine lv_aload_n F.1.1 F.1.2.1 dX6_putBack_0 rfl (lv_at hl 0 rfl) ?_
  refine lv_aload_n F.1.1 F.1.2.1 dX6_putBack_1 rfl (lv_at hl 0 rfl) ?_
  refine gt_6_18 F hP 31 rfl inX6_putBack_6 kX6_putBack_161 dX6_putBack_2 ?_
  refine pt_6_5 F hP hS 31 rfl inX6_putBack_6 kX6_putBack_56 dX6_putBack_5 hf (fun μ_1 H locs hP hS hf => ?_)
  refine lv_aload_n F.1.1 F.1.2.1 dX6_putBack_8 rfl (lv_at hl 0 rfl) ?_
  refine lv_aload_n F.1.1 F.1.2.1 dX6_putBack_9 rfl (lv_at hl 0 rfl) ?_
  refine gt_6_19 F hP 31 rfl inX6_putBack_6 kX6_putBack_164 dX6_putBack_10 ?_
  refine pt_6_6 F hP hS 31 rfl inX6_putBack_6 kX6_putBack_86 dX6_putBack_13 hf (fun μ_2 H locs hP hS hf => ?_)
  refine lv_aload_n F.1.1 F.1.2.1 dX6_putBack_16 rfl (lv_at hl 0 rfl) ?_
  refine lv_aload_n F.1.1 F.1.2.1 dX6_putBack_17 rfl (lv_at hl 0 rfl) ?_
  refine gt_6_20 F hP 31 rfl inX6_putBack_6 kX6_putBack_167 dX6_putBack_18 ?_
  refine pt_6_7 F hP hS 31 rfl inX6_putBack_6 kX6_putBack_92 dX6_putBack_21 hf (fun μ_3 H locs hP hS hf => ?_)
  refine lv_iconst (v := (0 : Int32)) F.1.1 F.1.2.1 dX6_putBack_24 (by decide) ?_
  refine lv_istore_n (lv' := [(1, .int (0 : Int32)), (0, .ref (ga G 31))]) F.1.1 F.1.2.1 dX6_putBack_25 rfl hl (by decide) rfl (fun ls hl => ?_)
  exact lX6_putBack_L26 l G F _ _ FU (0 : Int32) μ_3 H locs ls hP hS (lv_sub hl [1, 0] rfl) hf
abbrev rmX6_isPair : Room := { frames := 2, cells := 0, slots := 0, locals := 42 }
theorem hdX6_isPair : yX6_isPair.cls ≠ "java/lang/invoke/MethodHandle" ∧ yX6_isPair.cls ≠ "java/lang/invoke/VarHandle" ∧ (parseMethodDescriptor yX6_isPair.desc).map (fun d => d.parameters.length) = some 2 := by decide +kernel
set_option maxHeartbeats 4000000 in
set_option maxRecDepth 100000 in
theorem mX6_isPair (l : Launch) (G : GT) (hG : GD G) (x0 : Int32) (x1 : Int32) (μ : Mem) (r : Int32) (μ' : Mem) (hf : fX6_isPair x0 x1 μ = some (r, μ')) : Ct l yX6_isPair wsX6_isPair rmX6_isPair G [.int x0, .int x1] μ (some (.int r)) μ' := by
  refine Ct.of (cc := cX6_isPair) (maxL := 2) (ret := (some .boolean)) (own := RX6) hG (by decide) rfl rfl (Nat.le_of_ble_eq_true rfl) ?_
  intro p e s m args below meth c ls H locs F hl hP hS
  have hl : lv_has ls 2 [(0, .int x0), (1, .int x1)] := hl
  unfold fX6_isPair at hf
  refine lv_iload_n F.1.1 F.1.2.1 dX6_isPair_0 rfl (lv_at hl 0 rfl) ?_
  refine split_sw (k := (0 : Int32)) hf (fun hk0 hf => ?_) (fun hn0 hf => ?_)
  · refine lv_tableIn (tgt := 32) (off := 31) F.1.1 F.1.2.1 dX6_isPair_1 (by rw [hk0]; decide) (by rw [hk0]; decide) (by rw [hk0]; rfl) (by decide) ?_
    refine lv_iload_n F.1.1 F.1.2.1 dX6_isPair_32 rfl (lv_at hl 1 rfl) ?_
    refine lv_iconst (v := (0 : Int32)) F.1.1 F.1.2.1 dX6_isPair_33 (by decide) ?_
    refine lv_bipush (v := (20 : Int32)) F.1.1 F.1.2.1 dX6_isPair_34 (by decide) ?_
    obtain ⟨r_3, μ_1, hc_2, hf⟩ := bnd_some hf
    refine rS1 (R := rmX6_isPair) (As := [.int x1, .int (0 : Int32), .int (20 : Int32)]) (rest := []) F hP hS hl (mX6_within l G F.2.2.2.2 x1 (0 : Int32) (20 : Int32) _ _ _ hc_2) gX6_isPair_X6_within hdX6_within rfl rfl rfl ⟨Nat.le_of_ble_eq_true rfl, Nat.le_of_ble_eq_true rfl⟩ rfl rfl (Nat.le_of_ble_eq_true rfl) ⟨Nat.le_of_ble_eq_true rfl, Nat.le_of_ble_eq_true rfl⟩ dX6_isPair_36 (fun H locs hP hS => ?_)
    exact retZ F hP hS dX6_isPair_39 hf
  refine split_sw (k := (1 : Int32)) hf (fun hk1 hf => ?_) (fun hn1 hf => ?_)
  · refine lv_tableIn (tgt := 50) (off := 49) F.1.1 F.1.2.1 dX6_isPair_1 (by rw [hk1]; decide) (by rw [hk1]; decide) (by rw [hk1]; rfl) (by decide) ?_
    refine lv_iload_n F.1.1 F.1.2.1 dX6_isPair_50 rfl (lv_at hl 1 rfl) ?_
    obtain ⟨r_6, μ_4, hc_5, hf⟩ := bnd_some hf
    refine rS1 (R := rmX6_isPair) (As := [.int x1]) (rest := []) F hP hS hl (mX6_isDigit l G F.2.2.2.2 x1 _ _ _ hc_5) gX6_isPair_X6_isDigit hdX6_isDigit rfl rfl rfl ⟨Nat.le_of_ble_eq_true rfl, Nat.le_of_ble_eq_true rfl⟩ rfl rfl (Nat.le_of_ble_eq_true rfl) ⟨Nat.le_of_ble_eq_true rfl, Nat.le_of_ble_eq_true rfl⟩ dX6_isPair_51 (fun H locs hP hS => ?_)
    exact retZ F hP hS dX6_isPair_54 hf
  refine split_sw (k := (2 : Int32)) hf (fun hk2 hf => ?_) (fun hn2 hf => ?_)
  · refine lv_tableIn (tgt := 40) (off := 39) F.1.1 F.1.2.1 dX6_isPair_1 (by rw [hk2]; decide) (by rw [hk2]; decide) (by rw [hk2]; rfl) (by decide) ?_
    refine lv_iload_n F.1.1 F.1.2.1 dX6_isPair_40 rfl (lv_at hl 1 rfl) ?_
    refine jz_ne (tgt := 48) F dX6_isPair_41 (by decide) hf (fun hf => ?_) (fun hf => ?_)
    · refine lv_iconst (v := (0 : Int32)) F.1.1 F.1.2.1 dX6_isPair_48 (by decide) ?_
      exact retC F hP hS dX6_isPair_49 (by decide) hf
    · refine lv_iconst (v := (1 : Int32)) F.1.1 F.1.2.1 dX6_isPair_44 (by decide) ?_
      refine lv_goto (tgt := 49) F.1.1 F.1.2.1 dX6_isPair_45 (by decide) ?_
      exact retC F hP hS dX6_isPair_49 (by decide) hf
  refine split_sw (k := (3 : Int32)) hf (fun hk3 hf => ?_) (fun hn3 hf => ?_)
  · refine lv_tableIn (tgt := 50) (off := 49) F.1.1 F.1.2.1 dX6_isPair_1 (by rw [hk3]; decide) (by rw [hk3]; decide) (by rw [hk3]; rfl) (by decide) ?_
    refine lv_iload_n F.1.1 F.1.2.1 dX6_isPair_50 rfl (lv_at hl 1 rfl) ?_
    obtain ⟨r_9, μ_7, hc_8, hf⟩ := bnd_some hf
    refine rS1 (R := rmX6_isPair) (As := [.int x1]) (rest := []) F hP hS hl (mX6_isDigit l G F.2.2.2.2 x1 _ _ _ hc_8) gX6_isPair_X6_isDigit hdX6_isDigit rfl rfl rfl ⟨Nat.le_of_ble_eq_true rfl, Nat.le_of_ble_eq_true rfl⟩ rfl rfl (Nat.le_of_ble_eq_true rfl) ⟨Nat.le_of_ble_eq_true rfl, Nat.le_of_ble_eq_true rfl⟩ dX6_isPair_51 (fun H locs hP hS => ?_)
    exact retZ F hP hS dX6_isPair_54 hf
  refine lv_tableOut (tgt := 55) F.1.1 F.1.2.1 dX6_isPair_1 (by have q0 := lv_neT hn0 (a := 0) (by decide); have q1 := lv_neT hn1 (a := 1) (by decide); have q2 := lv_neT hn2 (a := 2) (by decide); have q3 := lv_neT hn3 (a := 3) (by decide); omega) (by decide) ?_
  refine lv_iconst (v := (0 : Int32)) F.1.1 F.1.2.1 dX6_isPair_55 (by decide) ?_
  exact retC F hP hS dX6_isPair_56 (by decide) hf
abbrev rmX6_does : Room := { frames := 4, cells := 0, slots := 0, locals := 87 }
theorem hdX6_does : yX6_does.cls = RX6 ∧ yX6_does.cls ≠ "java/lang/invoke/MethodHandle" ∧ yX6_does.cls ≠ "java/lang/invoke/VarHandle" ∧ (parseMethodDescriptor yX6_does.desc).map (fun d => d.parameters.length) = some 2 := by decide +kernel
theorem kX6_does_56 : Cond.fieldLink RX6 56 "PaperLayersModel" "layers" "I" ∈ wsX6_does := List.mem_cons_of_mem _ (List.mem_append_left _ (List.mem_append_left _ (List.mem_of_getElem? (i := 2) rfl)))
theorem kX6_does_86 : Cond.fieldLink RX6 86 "PaperLayersModel" "warmNow" "I" ∈ wsX6_does := List.mem_cons_of_mem _ (List.mem_append_left _ (List.mem_append_left _ (List.mem_of_getElem? (i := 0) rfl)))
theorem kX6_does_92 : Cond.fieldLink RX6 92 "PaperLayersModel" "dampNow" "I" ∈ wsX6_does := List.mem_cons_of_mem _ (List.mem_append_left _ (List.mem_append_left _ (List.mem_of_getElem? (i := 1) rfl)))
theorem inX6_does_6 : ∀ w ∈ wsX60, w ∈ wsX6_does := fun _ h => List.mem_cons_of_mem _ (List.mem_append_right _ (h))
set_option maxHeartbeats 4000000 in
set_option maxRecDepth 100000 in
theorem mX6_does (l : Launch) (G : GT) (hG : GD G) (x1 : Int32) (x2 : Int32) (μ : Mem) (r : Int32) (μ' : Mem) (hf : fX6_does x1 x2 μ = some (r, μ')) : Ct l yX6_does wsX6_does rmX6_does G [.ref (ga G 31), .int x1, .int x2] μ (some (.int r)) μ' := by
  refine Ct.of (cc := cX6_does) (maxL := 3) (ret := (some .boolean)) (own := RX6) hG (by decide) rfl rfl (Nat.le_of_ble_eq_true rfl) ?_
  intro p e s m args below meth c ls H locs F hl hP hS
  have hl : lv_has ls 3 [(0, .ref (ga G 31)), (1, .int x1), (2, .int x2)] := hl
  unfold fX6_does at hf
  refine lv_iload_n F.1.1 F.1.2.1 dX6_does_0 rfl (lv_at hl 1 rfl) ?_
  refine jz_ne (tgt := 9) F dX6_does_1 (by decide) hf (fun hf => ?_) (fun hf => ?_)
  · refine lv_iload_n F.1.1 F.1.2.1 dX6_does_9 rfl (lv_at hl 1 rfl) ?_
    refine lv_iconst (v := (1 : Int32)) F.1.1 F.1.2.1 dX6_does_10 (by decide) ?_
    refine jc_ne (tgt := 19) F dX6_does_11 (by decide) hf (fun hf => ?_) (fun hf => ?_)
    · refine lv_iload_n F.1.1 F.1.2.1 dX6_does_19 rfl (lv_at hl 1 rfl) ?_
      refine lv_iconst (v := (2 : Int32)) F.1.1 F.1.2.1 dX6_does_20 (by decide) ?_
      refine jc_ne (tgt := 31) F dX6_does_21 (by decide) hf (fun hf => ?_) (fun hf => ?_)
      · refine lv_iload_n F.1.1 F.1.2.1 dX6_does_31 rfl (lv_at hl 1 rfl) ?_
        refine lv_iconst (v := (3 : Int32)) F.1.1 F.1.2.1 dX6_does_32 (by decide) ?_
        refine jc_ne (tgt := 47) F dX6_does_33 (by decide) hf (fun hf => ?_) (fun hf => ?_)
        · refine lv_iload_n F.1.1 F.1.2.1 dX6_does_47 rfl (lv_at hl 1 rfl) ?_
          refine lv_iconst (v := (2 : Int32)) F.1.1 F.1.2.1 dX6_does_48 (by decide) ?_
          refine jc_ne (tgt := 57) F dX6_does_49 (by decide) hf (fun hf => ?_) (fun hf => ?_)
          · refine lv_iload_n F.1.1 F.1.2.1 dX6_does_57 rfl (lv_at hl 1 rfl) ?_
            refine lv_iconst (v := (3 : Int32)) F.1.1 F.1.2.1 dX6_does_58 (by decide) ?_
            refine jc_ne (tgt := 69) F dX6_does_59 (by decide) hf (fun hf => ?_) (fun hf => ?_)
            · refine lv_iconst (v := (1 : Int32)) F.1.1 F.1.2.1 dX6_does_69 (by decide) ?_
              exact retC F hP hS dX6_does_70 (by decide) hf
            · refine lv_aload_n F.1.1 F.1.2.1 dX6_does_62 rfl (lv_at hl 0 rfl) ?_
              refine lv_iconst (v := (0 : Int32)) F.1.1 F.1.2.1 dX6_does_63 (by decide) ?_
              refine lv_iload_n F.1.1 F.1.2.1 dX6_does_64 rfl (lv_at hl 2 rfl) ?_
              refine lv_iload_n F.1.1 F.1.2.1 dX6_does_65 rfl (lv_at hl 2 rfl) ?_
              obtain ⟨u_3, μ_1, hc_2, hf⟩ := bnd_some hf
              refine rVv (R := rmX6_does) (As := [.int (0 : Int32), .int x2, .int x2]) (rest := []) F hP hS hl (mX6_putOn l G F.2.2.2.2 (0 : Int32) x2 x2 _ _ _ hc_2) gX6_does_X6_putOn rfl hdX6_putOn rfl rfl rfl ⟨Nat.le_of_ble_eq_true rfl, Nat.le_of_ble_eq_true rfl⟩ (by decide) rfl rfl rfl (Nat.le_of_ble_eq_true rfl) ⟨Nat.le_of_ble_eq_true rfl, Nat.le_of_ble_eq_true rfl⟩ dX6_does_66 (fun H locs hP hS => ?_)
              refine lv_iconst (v := (1 : Int32)) F.1.1 F.1.2.1 dX6_does_69 (by decide) ?_
              exact retC F hP hS dX6_does_70 (by decide) hf
          · refine lv_aload_n F.1.1 F.1.2.1 dX6_does_52 rfl (lv_at hl 0 rfl) ?_
            obtain ⟨r_6, μ_4, hc_5, hf⟩ := bnd_some hf
            refine rV1 (R := rmX6_does) (As := []) (rest := []) F hP hS hl (mX6_takeOff l G F.2.2.2.2  _ _ _ hc_5) gX6_does_X6_takeOff rfl hdX6_takeOff rfl rfl rfl ⟨Nat.le_of_ble_eq_true rfl, Nat.le_of_ble_eq_true rfl⟩ (by decide) rfl rfl rfl (Nat.le_of_ble_eq_true rfl) ⟨Nat.le_of_ble_eq_true rfl, Nat.le_of_ble_eq_true rfl⟩ dX6_does_53 (fun H locs hP hS => ?_)
            refine lv_pop F.1.1 F.1.2.1 dX6_does_56 rfl ?_
            refine lv_iload_n F.1.1 F.1.2.1 dX6_does_57 rfl (lv_at hl 1 rfl) ?_
            refine lv_iconst (v := (3 : Int32)) F.1.1 F.1.2.1 dX6_does_58 (by decide) ?_
            refine jc_ne (tgt := 69) F dX6_does_59 (by decide) hf (fun hf => ?_) (fun hf => ?_)
            · refine lv_iconst (v := (1 : Int32)) F.1.1 F.1.2.1 dX6_does_69 (by decide) ?_
              exact retC F hP hS dX6_does_70 (by decide) hf
            · refine lv_aload_n F.1.1 F.1.2.1 dX6_does_62 rfl (lv_at hl 0 rfl) ?_
              refine lv_iconst (v := (0 : Int32)) F.1.1 F.1.2.1 dX6_does_63 (by decide) ?_
              refine lv_iload_n F.1.1 F.1.2.1 dX6_does_64 rfl (lv_at hl 2 rfl) ?_
              refine lv_iload_n F.1.1 F.1.2.1 dX6_does_65 rfl (lv_at hl 2 rfl) ?_
              obtain ⟨u_9, μ_7, hc_8, hf⟩ := bnd_some hf
              refine rVv (R := rmX6_does) (As := [.int (0 : Int32), .int x2, .int x2]) (rest := []) F hP hS hl (mX6_putOn l G F.2.2.2.2 (0 : Int32) x2 x2 _ _ _ hc_8) gX6_does_X6_putOn rfl hdX6_putOn rfl rfl rfl ⟨Nat.le_of_ble_eq_true rfl, Nat.le_of_ble_eq_true rfl⟩ (by decide) rfl rfl rfl (Nat.le_of_ble_eq_true rfl) ⟨Nat.le_of_ble_eq_true rfl, Nat.le_of_ble_eq_true rfl⟩ dX6_does_66 (fun H locs hP hS => ?_)
              refine lv_iconst (v := (1 : Int32)) F.1.1 F.1.2.1 dX6_does_69 (by decide) ?_
              exact retC F hP hS dX6_does_70 (by decide) hf
        · refine lv_aload_n F.1.1 F.1.2.1 dX6_does_36 rfl (lv_at hl 0 rfl) ?_
          refine gt_6_5 F hP 31 rfl inX6_does_6 kX6_does_56 dX6_does_37 ?_
          refine lv_bipush (v := (6 : Int32)) F.1.1 F.1.2.1 dX6_does_40 (by decide) ?_
          refine jc_ne (tgt := 47) F dX6_does_42 (by decide) hf (fun hf => ?_) (fun hf => ?_)
          · refine lv_iload_n F.1.1 F.1.2.1 dX6_does_47 rfl (lv_at hl 1 rfl) ?_
            refine lv_iconst (v := (2 : Int32)) F.1.1 F.1.2.1 dX6_does_48 (by decide) ?_
            refine jc_ne (tgt := 57) F dX6_does_49 (by decide) hf (fun hf => ?_) (fun hf => ?_)
            · refine lv_iload_n F.1.1 F.1.2.1 dX6_does_57 rfl (lv_at hl 1 rfl) ?_
              refine lv_iconst (v := (3 : Int32)) F.1.1 F.1.2.1 dX6_does_58 (by decide) ?_
              refine jc_ne (tgt := 69) F dX6_does_59 (by decide) hf (fun hf => ?_) (fun hf => ?_)
              · refine lv_iconst (v := (1 : Int32)) F.1.1 F.1.2.1 dX6_does_69 (by decide) ?_
                exact retC F hP hS dX6_does_70 (by decide) hf
              · refine lv_aload_n F.1.1 F.1.2.1 dX6_does_62 rfl (lv_at hl 0 rfl) ?_
                refine lv_iconst (v := (0 : Int32)) F.1.1 F.1.2.1 dX6_does_63 (by decide) ?_
                refine lv_iload_n F.1.1 F.1.2.1 dX6_does_64 rfl (lv_at hl 2 rfl) ?_
                refine lv_iload_n F.1.1 F.1.2.1 dX6_does_65 rfl (lv_at hl 2 rfl) ?_
                obtain ⟨u_12, μ_10, hc_11, hf⟩ := bnd_some hf
                refine rVv (R := rmX6_does) (As := [.int (0 : Int32), .int x2, .int x2]) (rest := []) F hP hS hl (mX6_putOn l G F.2.2.2.2 (0 : Int32) x2 x2 _ _ _ hc_11) gX6_does_X6_putOn rfl hdX6_putOn rfl rfl rfl ⟨Nat.le_of_ble_eq_true rfl, Nat.le_of_ble_eq_true rfl⟩ (by decide) rfl rfl rfl (Nat.le_of_ble_eq_true rfl) ⟨Nat.le_of_ble_eq_true rfl, Nat.le_of_ble_eq_true rfl⟩ dX6_does_66 (fun H locs hP hS => ?_)
                refine lv_iconst (v := (1 : Int32)) F.1.1 F.1.2.1 dX6_does_69 (by decide) ?_
                exact retC F hP hS dX6_does_70 (by decide) hf
            · refine lv_aload_n F.1.1 F.1.2.1 dX6_does_52 rfl (lv_at hl 0 rfl) ?_
              obtain ⟨r_15, μ_13, hc_14, hf⟩ := bnd_some hf
              refine rV1 (R := rmX6_does) (As := []) (rest := []) F hP hS hl (mX6_takeOff l G F.2.2.2.2  _ _ _ hc_14) gX6_does_X6_takeOff rfl hdX6_takeOff rfl rfl rfl ⟨Nat.le_of_ble_eq_true rfl, Nat.le_of_ble_eq_true rfl⟩ (by decide) rfl rfl rfl (Nat.le_of_ble_eq_true rfl) ⟨Nat.le_of_ble_eq_true rfl, Nat.le_of_ble_eq_true rfl⟩ dX6_does_53 (fun H locs hP hS => ?_)
              refine lv_pop F.1.1 F.1.2.1 dX6_does_56 rfl ?_
              refine lv_iload_n F.1.1 F.1.2.1 dX6_does_57 rfl (lv_at hl 1 rfl) ?_
              refine lv_iconst (v := (3 : Int32)) F.1.1 F.1.2.1 dX6_does_58 (by decide) ?_
              refine jc_ne (tgt := 69) F dX6_does_59 (by decide) hf (fun hf => ?_) (fun hf => ?_)
              · refine lv_iconst (v := (1 : Int32)) F.1.1 F.1.2.1 dX6_does_69 (by decide) ?_
                exact retC F hP hS dX6_does_70 (by decide) hf
              · refine lv_aload_n F.1.1 F.1.2.1 dX6_does_62 rfl (lv_at hl 0 rfl) ?_
                refine lv_iconst (v := (0 : Int32)) F.1.1 F.1.2.1 dX6_does_63 (by decide) ?_
                refine lv_iload_n F.1.1 F.1.2.1 dX6_does_64 rfl (lv_at hl 2 rfl) ?_
                refine lv_iload_n F.1.1 F.1.2.1 dX6_does_65 rfl (lv_at hl 2 rfl) ?_
                obtain ⟨u_18, μ_16, hc_17, hf⟩ := bnd_some hf
                refine rVv (R := rmX6_does) (As := [.int (0 : Int32), .int x2, .int x2]) (rest := []) F hP hS hl (mX6_putOn l G F.2.2.2.2 (0 : Int32) x2 x2 _ _ _ hc_17) gX6_does_X6_putOn rfl hdX6_putOn rfl rfl rfl ⟨Nat.le_of_ble_eq_true rfl, Nat.le_of_ble_eq_true rfl⟩ (by decide) rfl rfl rfl (Nat.le_of_ble_eq_true rfl) ⟨Nat.le_of_ble_eq_true rfl, Nat.le_of_ble_eq_true rfl⟩ dX6_does_66 (fun H locs hP hS => ?_)
                refine lv_iconst (v := (1 : Int32)) F.1.1 F.1.2.1 dX6_does_69 (by decide) ?_
                exact retC F hP hS dX6_does_70 (by decide) hf
          · refine lv_iconst (v := (0 : Int32)) F.1.1 F.1.2.1 dX6_does_45 (by decide) ?_
            exact retC F hP hS dX6_does_46 (by decide) hf
      · refine lv_aload_n F.1.1 F.1.2.1 dX6_does_24 rfl (lv_at hl 0 rfl) ?_
        obtain ⟨r_21, μ_19, hc_20, hf⟩ := bnd_some hf
        refine rV1 (R := rmX6_does) (As := []) (rest := []) F hP hS hl (mX6_mayPeel l G F.2.2.2.2  _ _ _ hc_20) gX6_does_X6_mayPeel rfl hdX6_mayPeel rfl rfl rfl ⟨Nat.le_of_ble_eq_true rfl, Nat.le_of_ble_eq_true rfl⟩ (by decide) rfl rfl rfl (Nat.le_of_ble_eq_true rfl) ⟨Nat.le_of_ble_eq_true rfl, Nat.le_of_ble_eq_true rfl⟩ dX6_does_25 (fun H locs hP hS => ?_)
        refine jz_eq (tgt := 45) F dX6_does_28 (by decide) hf (fun hf => ?_) (fun hf => ?_)
        · refine lv_iconst (v := (0 : Int32)) F.1.1 F.1.2.1 dX6_does_45 (by decide) ?_
          exact retC F hP hS dX6_does_46 (by decide) hf
        · refine lv_iload_n F.1.1 F.1.2.1 dX6_does_31 rfl (lv_at hl 1 rfl) ?_
          refine lv_iconst (v := (3 : Int32)) F.1.1 F.1.2.1 dX6_does_32 (by decide) ?_
          refine jc_ne (tgt := 47) F dX6_does_33 (by decide) hf (fun hf => ?_) (fun hf => ?_)
          · refine lv_iload_n F.1.1 F.1.2.1 dX6_does_47 rfl (lv_at hl 1 rfl) ?_
            refine lv_iconst (v := (2 : Int32)) F.1.1 F.1.2.1 dX6_does_48 (by decide) ?_
            refine jc_ne (tgt := 57) F dX6_does_49 (by decide) hf (fun hf => ?_) (fun hf => ?_)
            · refine lv_iload_n F.1.1 F.1.2.1 dX6_does_57 rfl (lv_at hl 1 rfl) ?_
              refine lv_iconst (v := (3 : Int32)) F.1.1 F.1.2.1 dX6_does_58 (by decide) ?_
              refine jc_ne (tgt := 69) F dX6_does_59 (by decide) hf (fun hf => ?_) (fun hf => ?_)
              · refine lv_iconst (v := (1 : Int32)) F.1.1 F.1.2.1 dX6_does_69 (by decide) ?_
                exact retC F hP hS dX6_does_70 (by decide) hf
              · refine lv_aload_n F.1.1 F.1.2.1 dX6_does_62 rfl (lv_at hl 0 rfl) ?_
                refine lv_iconst (v := (0 : Int32)) F.1.1 F.1.2.1 dX6_does_63 (by decide) ?_
                refine lv_iload_n F.1.1 F.1.2.1 dX6_does_64 rfl (lv_at hl 2 rfl) ?_
                refine lv_iload_n F.1.1 F.1.2.1 dX6_does_65 rfl (lv_at hl 2 rfl) ?_
                obtain ⟨u_24, μ_22, hc_23, hf⟩ := bnd_some hf
                refine rVv (R := rmX6_does) (As := [.int (0 : Int32), .int x2, .int x2]) (rest := []) F hP hS hl (mX6_putOn l G F.2.2.2.2 (0 : Int32) x2 x2 _ _ _ hc_23) gX6_does_X6_putOn rfl hdX6_putOn rfl rfl rfl ⟨Nat.le_of_ble_eq_true rfl, Nat.le_of_ble_eq_true rfl⟩ (by decide) rfl rfl rfl (Nat.le_of_ble_eq_true rfl) ⟨Nat.le_of_ble_eq_true rfl, Nat.le_of_ble_eq_true rfl⟩ dX6_does_66 (fun H locs hP hS => ?_)
                refine lv_iconst (v := (1 : Int32)) F.1.1 F.1.2.1 dX6_does_69 (by decide) ?_
                exact retC F hP hS dX6_does_70 (by decide) hf
            · refine lv_aload_n F.1.1 F.1.2.1 dX6_does_52 rfl (lv_at hl 0 rfl) ?_
              obtain ⟨r_27, μ_25, hc_26, hf⟩ := bnd_some hf
              refine rV1 (R := rmX6_does) (As := []) (rest := []) F hP hS hl (mX6_takeOff l G F.2.2.2.2  _ _ _ hc_26) gX6_does_X6_takeOff rfl hdX6_takeOff rfl rfl rfl ⟨Nat.le_of_ble_eq_true rfl, Nat.le_of_ble_eq_true rfl⟩ (by decide) rfl rfl rfl (Nat.le_of_ble_eq_true rfl) ⟨Nat.le_of_ble_eq_true rfl, Nat.le_of_ble_eq_true rfl⟩ dX6_does_53 (fun H locs hP hS => ?_)
              refine lv_pop F.1.1 F.1.2.1 dX6_does_56 rfl ?_
              refine lv_iload_n F.1.1 F.1.2.1 dX6_does_57 rfl (lv_at hl 1 rfl) ?_
              refine lv_iconst (v := (3 : Int32)) F.1.1 F.1.2.1 dX6_does_58 (by decide) ?_
              refine jc_ne (tgt := 69) F dX6_does_59 (by decide) hf (fun hf => ?_) (fun hf => ?_)
              · refine lv_iconst (v := (1 : Int32)) F.1.1 F.1.2.1 dX6_does_69 (by decide) ?_
                exact retC F hP hS dX6_does_70 (by decide) hf
              · refine lv_aload_n F.1.1 F.1.2.1 dX6_does_62 rfl (lv_at hl 0 rfl) ?_
                refine lv_iconst (v := (0 : Int32)) F.1.1 F.1.2.1 dX6_does_63 (by decide) ?_
                refine lv_iload_n F.1.1 F.1.2.1 dX6_does_64 rfl (lv_at hl 2 rfl) ?_
                refine lv_iload_n F.1.1 F.1.2.1 dX6_does_65 rfl (lv_at hl 2 rfl) ?_
                obtain ⟨u_30, μ_28, hc_29, hf⟩ := bnd_some hf
                refine rVv (R := rmX6_does) (As := [.int (0 : Int32), .int x2, .int x2]) (rest := []) F hP hS hl (mX6_putOn l G F.2.2.2.2 (0 : Int32) x2 x2 _ _ _ hc_29) gX6_does_X6_putOn rfl hdX6_putOn rfl rfl rfl ⟨Nat.le_of_ble_eq_true rfl, Nat.le_of_ble_eq_true rfl⟩ (by decide) rfl rfl rfl (Nat.le_of_ble_eq_true rfl) ⟨Nat.le_of_ble_eq_true rfl, Nat.le_of_ble_eq_true rfl⟩ dX6_does_66 (fun H locs hP hS => ?_)
                refine lv_iconst (v := (1 : Int32)) F.1.1 F.1.2.1 dX6_does_69 (by decide) ?_
                exact retC F hP hS dX6_does_70 (by decide) hf
          · refine lv_aload_n F.1.1 F.1.2.1 dX6_does_36 rfl (lv_at hl 0 rfl) ?_
            refine gt_6_5 F hP 31 rfl inX6_does_6 kX6_does_56 dX6_does_37 ?_
            refine lv_bipush (v := (6 : Int32)) F.1.1 F.1.2.1 dX6_does_40 (by decide) ?_
            refine jc_ne (tgt := 47) F dX6_does_42 (by decide) hf (fun hf => ?_) (fun hf => ?_)
            · refine lv_iload_n F.1.1 F.1.2.1 dX6_does_47 rfl (lv_at hl 1 rfl) ?_
              refine lv_iconst (v := (2 : Int32)) F.1.1 F.1.2.1 dX6_does_48 (by decide) ?_
              refine jc_ne (tgt := 57) F dX6_does_49 (by decide) hf (fun hf => ?_) (fun hf => ?_)
              · refine lv_iload_n F.1.1 F.1.2.1 dX6_does_57 rfl (lv_at hl 1 rfl) ?_
                refine lv_iconst (v := (3 : Int32)) F.1.1 F.1.2.1 dX6_does_58 (by decide) ?_
                refine jc_ne (tgt := 69) F dX6_does_59 (by decide) hf (fun hf => ?_) (fun hf => ?_)
                · refine lv_iconst (v := (1 : Int32)) F.1.1 F.1.2.1 dX6_does_69 (by decide) ?_
                  exact retC F hP hS dX6_does_70 (by decide) hf
                · refine lv_aload_n F.1.1 F.1.2.1 dX6_does_62 rfl (lv_at hl 0 rfl) ?_
                  refine lv_iconst (v := (0 : Int32)) F.1.1 F.1.2.1 dX6_does_63 (by decide) ?_
                  refine lv_iload_n F.1.1 F.1.2.1 dX6_does_64 rfl (lv_at hl 2 rfl) ?_
                  refine lv_iload_n F.1.1 F.1.2.1 dX6_does_65 rfl (lv_at hl 2 rfl) ?_
                  obtain ⟨u_33, μ_31, hc_32, hf⟩ := bnd_some hf
                  refine rVv (R := rmX6_does) (As := [.int (0 : Int32), .int x2, .int x2]) (rest := []) F hP hS hl (mX6_putOn l G F.2.2.2.2 (0 : Int32) x2 x2 _ _ _ hc_32) gX6_does_X6_putOn rfl hdX6_putOn rfl rfl rfl ⟨Nat.le_of_ble_eq_true rfl, Nat.le_of_ble_eq_true rfl⟩ (by decide) rfl rfl rfl (Nat.le_of_ble_eq_true rfl) ⟨Nat.le_of_ble_eq_true rfl, Nat.le_of_ble_eq_true rfl⟩ dX6_does_66 (fun H locs hP hS => ?_)
                  refine lv_iconst (v := (1 : Int32)) F.1.1 F.1.2.1 dX6_does_69 (by decide) ?_
                  exact retC F hP hS dX6_does_70 (by decide) hf
              · refine lv_aload_n F.1.1 F.1.2.1 dX6_does_52 rfl (lv_at hl 0 rfl) ?_
                obtain ⟨r_36, μ_34, hc_35, hf⟩ := bnd_some hf
                refine rV1 (R := rmX6_does) (As := []) (rest := []) F hP hS hl (mX6_takeOff l G F.2.2.2.2  _ _ _ hc_35) gX6_does_X6_takeOff rfl hdX6_takeOff rfl rfl rfl ⟨Nat.le_of_ble_eq_true rfl, Nat.le_of_ble_eq_true rfl⟩ (by decide) rfl rfl rfl (Nat.le_of_ble_eq_true rfl) ⟨Nat.le_of_ble_eq_true rfl, Nat.le_of_ble_eq_true rfl⟩ dX6_does_53 (fun H locs hP hS => ?_)
                refine lv_pop F.1.1 F.1.2.1 dX6_does_56 rfl ?_
                refine lv_iload_n F.1.1 F.1.2.1 dX6_does_57 rfl (lv_at hl 1 rfl) ?_
                refine lv_iconst (v := (3 : Int32)) F.1.1 F.1.2.1 dX6_does_58 (by decide) ?_
                refine jc_ne (tgt := 69) F dX6_does_59 (by decide) hf (fun hf => ?_) (fun hf => ?_)
                · refine lv_iconst (v := (1 : Int32)) F.1.1 F.1.2.1 dX6_does_69 (by decide) ?_
                  exact retC F hP hS dX6_does_70 (by decide) hf
                · refine lv_aload_n F.1.1 F.1.2.1 dX6_does_62 rfl (lv_at hl 0 rfl) ?_
                  refine lv_iconst (v := (0 : Int32)) F.1.1 F.1.2.1 dX6_does_63 (by decide) ?_
                  refine lv_iload_n F.1.1 F.1.2.1 dX6_does_64 rfl (lv_at hl 2 rfl) ?_
                  refine lv_iload_n F.1.1 F.1.2.1 dX6_does_65 rfl (lv_at hl 2 rfl) ?_
                  obtain ⟨u_39, μ_37, hc_38, hf⟩ := bnd_some hf
                  refine rVv (R := rmX6_does) (As := [.int (0 : Int32), .int x2, .int x2]) (rest := []) F hP hS hl (mX6_putOn l G F.2.2.2.2 (0 : Int32) x2 x2 _ _ _ hc_38) gX6_does_X6_putOn rfl hdX6_putOn rfl rfl rfl ⟨Nat.le_of_ble_eq_true rfl, Nat.le_of_ble_eq_true rfl⟩ (by decide) rfl rfl rfl (Nat.le_of_ble_eq_true rfl) ⟨Nat.le_of_ble_eq_true rfl, Nat.le_of_ble_eq_true rfl⟩ dX6_does_66 (fun H locs hP hS => ?_)
                  refine lv_iconst (v := (1 : Int32)) F.1.1 F.1.2.1 dX6_does_69 (by decide) ?_
                  exact retC F hP hS dX6_does_70 (by decide) hf
            · refine lv_iconst (v := (0 : Int32)) F.1.1 F.1.2.1 dX6_does_45 (by decide) ?_
              exact retC F hP hS dX6_does_46 (by decide) hf
    · refine lv_aload_n F.1.1 F.1.2.1 dX6_does_14 rfl (lv_at hl 0 rfl) ?_
      refine lv_iload_n F.1.1 F.1.2.1 dX6_does_15 rfl (lv_at hl 2 rfl) ?_
      refine pt_6_7 F hP hS 31 rfl inX6_does_6 kX6_does_92 dX6_does_16 hf (fun μ_40 H locs hP hS hf => ?_)
      refine lv_iload_n F.1.1 F.1.2.1 dX6_does_19 rfl (lv_at hl 1 rfl) ?_
      refine lv_iconst (v := (2 : Int32)) F.1.1 F.1.2.1 dX6_does_20 (by decide) ?_
      refine jc_ne (tgt := 31) F dX6_does_21 (by decide) hf (fun hf => ?_) (fun hf => ?_)
      · refine lv_iload_n F.1.1 F.1.2.1 dX6_does_31 rfl (lv_at hl 1 rfl) ?_
        refine lv_iconst (v := (3 : Int32)) F.1.1 F.1.2.1 dX6_does_32 (by decide) ?_
        refine jc_ne (tgt := 47) F dX6_does_33 (by decide) hf (fun hf => ?_) (fun hf => ?_)
        · refine lv_iload_n F.1.1 F.1.2.1 dX6_does_47 rfl (lv_at hl 1 rfl) ?_
          refine lv_iconst (v := (2 : Int32)) F.1.1 F.1.2.1 dX6_does_48 (by decide) ?_
          refine jc_ne (tgt := 57) F dX6_does_49 (by decide) hf (fun hf => ?_) (fun hf => ?_)
          · refine lv_iload_n F.1.1 F.1.2.1 dX6_does_57 rfl (lv_at hl 1 rfl) ?_
            refine lv_iconst (v := (3 : Int32)) F.1.1 F.1.2.1 dX6_does_58 (by decide) ?_
            refine jc_ne (tgt := 69) F dX6_does_59 (by decide) hf (fun hf => ?_) (fun hf => ?_)
            · refine lv_iconst (v := (1 : Int32)) F.1.1 F.1.2.1 dX6_does_69 (by decide) ?_
              exact retC F hP hS dX6_does_70 (by decide) hf
            · refine lv_aload_n F.1.1 F.1.2.1 dX6_does_62 rfl (lv_at hl 0 rfl) ?_
              refine lv_iconst (v := (0 : Int32)) F.1.1 F.1.2.1 dX6_does_63 (by decide) ?_
              refine lv_iload_n F.1.1 F.1.2.1 dX6_does_64 rfl (lv_at hl 2 rfl) ?_
              refine lv_iload_n F.1.1 F.1.2.1 dX6_does_65 rfl (lv_at hl 2 rfl) ?_
              obtain ⟨u_43, μ_41, hc_42, hf⟩ := bnd_some hf
              refine rVv (R := rmX6_does) (As := [.int (0 : Int32), .int x2, .int x2]) (rest := []) F hP hS hl (mX6_putOn l G F.2.2.2.2 (0 : Int32) x2 x2 _ _ _ hc_42) gX6_does_X6_putOn rfl hdX6_putOn rfl rfl rfl ⟨Nat.le_of_ble_eq_true rfl, Nat.le_of_ble_eq_true rfl⟩ (by decide) rfl rfl rfl (Nat.le_of_ble_eq_true rfl) ⟨Nat.le_of_ble_eq_true rfl, Nat.le_of_ble_eq_true rfl⟩ dX6_does_66 (fun H locs hP hS => ?_)
              refine lv_iconst (v := (1 : Int32)) F.1.1 F.1.2.1 dX6_does_69 (by decide) ?_
              exact retC F hP hS dX6_does_70 (by decide) hf
          · refine lv_aload_n F.1.1 F.1.2.1 dX6_does_52 rfl (lv_at hl 0 rfl) ?_
            obtain ⟨r_46, μ_44, hc_45, hf⟩ := bnd_some hf
            refine rV1 (R := rmX6_does) (As := []) (rest := []) F hP hS hl (mX6_takeOff l G F.2.2.2.2  _ _ _ hc_45) gX6_does_X6_takeOff rfl hdX6_takeOff rfl rfl rfl ⟨Nat.le_of_ble_eq_true rfl, Nat.le_of_ble_eq_true rfl⟩ (by decide) rfl rfl rfl (Nat.le_of_ble_eq_true rfl) ⟨Nat.le_of_ble_eq_true rfl, Nat.le_of_ble_eq_true rfl⟩ dX6_does_53 (fun H locs hP hS => ?_)
            refine lv_pop F.1.1 F.1.2.1 dX6_does_56 rfl ?_
            refine lv_iload_n F.1.1 F.1.2.1 dX6_does_57 rfl (lv_at hl 1 rfl) ?_
            refine lv_iconst (v := (3 : Int32)) F.1.1 F.1.2.1 dX6_does_58 (by decide) ?_
            refine jc_ne (tgt := 69) F dX6_does_59 (by decide) hf (fun hf => ?_) (fun hf => ?_)
            · refine lv_iconst (v := (1 : Int32)) F.1.1 F.1.2.1 dX6_does_69 (by decide) ?_
              exact retC F hP hS dX6_does_70 (by decide) hf
            · refine lv_aload_n F.1.1 F.1.2.1 dX6_does_62 rfl (lv_at hl 0 rfl) ?_
              refine lv_iconst (v := (0 : Int32)) F.1.1 F.1.2.1 dX6_does_63 (by decide) ?_
              refine lv_iload_n F.1.1 F.1.2.1 dX6_does_64 rfl (lv_at hl 2 rfl) ?_
              refine lv_iload_n F.1.1 F.1.2.1 dX6_does_65 rfl (lv_at hl 2 rfl) ?_
              obtain ⟨u_49, μ_47, hc_48, hf⟩ := bnd_some hf
              refine rVv (R := rmX6_does) (As := [.int (0 : Int32), .int x2, .int x2]) (rest := []) F hP hS hl (mX6_putOn l G F.2.2.2.2 (0 : Int32) x2 x2 _ _ _ hc_48) gX6_does_X6_putOn rfl hdX6_putOn rfl rfl rfl ⟨Nat.le_of_ble_eq_true rfl, Nat.le_of_ble_eq_true rfl⟩ (by decide) rfl rfl rfl (Nat.le_of_ble_eq_true rfl) ⟨Nat.le_of_ble_eq_true rfl, Nat.le_of_ble_eq_true rfl⟩ dX6_does_66 (fun H locs hP hS => ?_)
              refine lv_iconst (v := (1 : Int32)) F.1.1 F.1.2.1 dX6_does_69 (by decide) ?_
              exact retC F hP hS dX6_does_70 (by decide) hf
        · refine lv_aload_n F.1.1 F.1.2.1 dX6_does_36 rfl (lv_at hl 0 rfl) ?_
          refine gt_6_5 F hP 31 rfl inX6_does_6 kX6_does_56 dX6_does_37 ?_
          refine lv_bipush (v := (6 : Int32)) F.1.1 F.1.2.1 dX6_does_40 (by decide) ?_
          refine jc_ne (tgt := 47) F dX6_does_42 (by decide) hf (fun hf => ?_) (fun hf => ?_)
          · refine lv_iload_n F.1.1 F.1.2.1 dX6_does_47 rfl (lv_at hl 1 rfl) ?_
            refine lv_iconst (v := (2 : Int32)) F.1.1 F.1.2.1 dX6_does_48 (by decide) ?_
            refine jc_ne (tgt := 57) F dX6_does_49 (by decide) hf (fun hf => ?_) (fun hf => ?_)
            · refine lv_iload_n F.1.1 F.1.2.1 dX6_does_57 rfl (lv_at hl 1 rfl) ?_
              refine lv_iconst (v := (3 : Int32)) F.1.1 F.1.2.1 dX6_does_58 (by decide) ?_
              refine jc_ne (tgt := 69) F dX6_does_59 (by decide) hf (fun hf => ?_) (fun hf => ?_)
              · refine lv_iconst (v := (1 : Int32)) F.1.1 F.1.2.1 dX6_does_69 (by decide) ?_
                exact retC F hP hS dX6_does_70 (by decide) hf
              · refine lv_aload_n F.1.1 F.1.2.1 dX6_does_62 rfl (lv_at hl 0 rfl) ?_
                refine lv_iconst (v := (0 : Int32)) F.1.1 F.1.2.1 dX6_does_63 (by decide) ?_
                refine lv_iload_n F.1.1 F.1.2.1 dX6_does_64 rfl (lv_at hl 2 rfl) ?_
                refine lv_iload_n F.1.1 F.1.2.1 dX6_does_65 rfl (lv_at hl 2 rfl) ?_
                obtain ⟨u_52, μ_50, hc_51, hf⟩ := bnd_some hf
                refine rVv (R := rmX6_does) (As := [.int (0 : Int32), .int x2, .int x2]) (rest := []) F hP hS hl (mX6_putOn l G F.2.2.2.2 (0 : Int32) x2 x2 _ _ _ hc_51) gX6_does_X6_putOn rfl hdX6_putOn rfl rfl rfl ⟨Nat.le_of_ble_eq_true rfl, Nat.le_of_ble_eq_true rfl⟩ (by decide) rfl rfl rfl (Nat.le_of_ble_eq_true rfl) ⟨Nat.le_of_ble_eq_true rfl, Nat.le_of_ble_eq_true rfl⟩ dX6_does_66 (fun H locs hP hS => ?_)
                refine lv_iconst (v := (1 : Int32)) F.1.1 F.1.2.1 dX6_does_69 (by decide) ?_
                exact retC F hP hS dX6_does_70 (by decide) hf
            · refine lv_aload_n F.1.1 F.1.2.1 dX6_does_52 rfl (lv_at hl 0 rfl) ?_
              obtain ⟨r_55, μ_53, hc_54, hf⟩ := bnd_some hf
              refine rV1 (R := rmX6_does) (As := []) (rest := []) F hP hS hl (mX6_takeOff l G F.2.2.2.2  _ _ _ hc_54) gX6_does_X6_takeOff rfl hdX6_takeOff rfl rfl rfl ⟨Nat.le_of_ble_eq_true rfl, Nat.le_of_ble_eq_true rfl⟩ (by decide) rfl rfl rfl (Nat.le_of_ble_eq_true rfl) ⟨Nat.le_of_ble_eq_true rfl, Nat.le_of_ble_eq_true rfl⟩ dX6_does_53 (fun H locs hP hS => ?_)
              refine lv_pop F.1.1 F.1.2.1 dX6_does_56 rfl ?_
              refine lv_iload_n F.1.1 F.1.2.1 dX6_does_57 rfl (lv_at hl 1 rfl) ?_
              refine lv_iconst (v := (3 : Int32)) F.1.1 F.1.2.1 dX6_does_58 (by decide) ?_
              refine jc_ne (tgt := 69) F dX6_does_59 (by decide) hf (fun hf => ?_) (fun hf => ?_)
              · refine lv_iconst (v := (1 : Int32)) F.1.1 F.1.2.1 dX6_does_69 (by decide) ?_
                exact retC F hP hS dX6_does_70 (by decide) hf
              · refine lv_aload_n F.1.1 F.1.2.1 dX6_does_62 rfl (lv_at hl 0 rfl) ?_
                refine lv_iconst (v := (0 : Int32)) F.1.1 F.1.2.1 dX6_does_63 (by decide) ?_
                refine lv_iload_n F.1.1 F.1.2.1 dX6_does_64 rfl (lv_at hl 2 rfl) ?_
                refine lv_iload_n F.1.1 F.1.2.1 dX6_does_65 rfl (lv_at hl 2 rfl) ?_
                obtain ⟨u_58, μ_56, hc_57, hf⟩ := bnd_some hf
                refine rVv (R := rmX6_does) (As := [.int (0 : Int32), .int x2, .int x2]) (rest := []) F hP hS hl (mX6_putOn l G F.2.2.2.2 (0 : Int32) x2 x2 _ _ _ hc_57) gX6_does_X6_putOn rfl hdX6_putOn rfl rfl rfl ⟨Nat.le_of_ble_eq_true rfl, Nat.le_of_ble_eq_true rfl⟩ (by decide) rfl rfl rfl (Nat.le_of_ble_eq_true rfl) ⟨Nat.le_of_ble_eq_true rfl, Nat.le_of_ble_eq_true rfl⟩ dX6_does_66 (fun H locs hP hS => ?_)
                refine lv_iconst (v := (1 : Int32)) F.1.1 F.1.2.1 dX6_does_69 (by decide) ?_
                exact retC F hP hS dX6_does_70 (by decide) hf
          · refine lv_iconst (v := (0 : Int32)) F.1.1 F.1.2.1 dX6_does_45 (by decide) ?_
            exact retC F hP hS dX6_does_46 (by decide) hf
      · refine lv_aload_n F.1.1 F.1.2.1 dX6_does_24 rfl (lv_at hl 0 rfl) ?_
        obtain ⟨r_61, μ_59, hc_60, hf⟩ := bnd_some hf
        refine rV1 (R := rmX6_does) (As := []) (rest := []) F hP hS hl (mX6_mayPeel l G F.2.2.2.2  _ _ _ hc_60) gX6_does_X6_mayPeel rfl hdX6_mayPeel rfl rfl rfl ⟨Nat.le_of_ble_eq_true rfl, Nat.le_of_ble_eq_true rfl⟩ (by decide) rfl rfl rfl (Nat.le_of_ble_eq_true rfl) ⟨Nat.le_of_ble_eq_true rfl, Nat.le_of_ble_eq_true rfl⟩ dX6_does_25 (fun H locs hP hS => ?_)
        refine jz_eq (tgt := 45) F dX6_does_28 (by decide) hf (fun hf => ?_) (fun hf => ?_)
        · refine lv_iconst (v := (0 : Int32)) F.1.1 F.1.2.1 dX6_does_45 (by decide) ?_
          exact retC F hP hS dX6_does_46 (by decide) hf
        · refine lv_iload_n F.1.1 F.1.2.1 dX6_does_31 rfl (lv_at hl 1 rfl) ?_
          refine lv_iconst (v := (3 : Int32)) F.1.1 F.1.2.1 dX6_does_32 (by decide) ?_
          refine jc_ne (tgt := 47) F dX6_does_33 (by decide) hf (fun hf => ?_) (fun hf => ?_)
          · refine lv_iload_n F.1.1 F.1.2.1 dX6_does_47 rfl (lv_at hl 1 rfl) ?_
            refine lv_iconst (v := (2 : Int32)) F.1.1 F.1.2.1 dX6_does_48 (by decide) ?_
            refine jc_ne (tgt := 57) F dX6_does_49 (by decide) hf (fun hf => ?_) (fun hf => ?_)
            · refine lv_iload_n F.1.1 F.1.2.1 dX6_does_57 rfl (lv_at hl 1 rfl) ?_
              refine lv_iconst (v := (3 : Int32)) F.1.1 F.1.2.1 dX6_does_58 (by decide) ?_
              refine jc_ne (tgt := 69) F dX6_does_59 (by decide) hf (fun hf => ?_) (fun hf => ?_)
              · refine lv_iconst (v := (1 : Int32)) F.1.1 F.1.2.1 dX6_does_69 (by decide) ?_
                exact retC F hP hS dX6_does_70 (by decide) hf
              · refine lv_aload_n F.1.1 F.1.2.1 dX6_does_62 rfl (lv_at hl 0 rfl) ?_
                refine lv_iconst (v := (0 : Int32)) F.1.1 F.1.2.1 dX6_does_63 (by decide) ?_
                refine lv_iload_n F.1.1 F.1.2.1 dX6_does_64 rfl (lv_at hl 2 rfl) ?_
                refine lv_iload_n F.1.1 F.1.2.1 dX6_does_65 rfl (lv_at hl 2 rfl) ?_
                obtain ⟨u_64, μ_62, hc_63, hf⟩ := bnd_some hf
                refine rVv (R := rmX6_does) (As := [.int (0 : Int32), .int x2, .int x2]) (rest := []) F hP hS hl (mX6_putOn l G F.2.2.2.2 (0 : Int32) x2 x2 _ _ _ hc_63) gX6_does_X6_putOn rfl hdX6_putOn rfl rfl rfl ⟨Nat.le_of_ble_eq_true rfl, Nat.le_of_ble_eq_true rfl⟩ (by decide) rfl rfl rfl (Nat.le_of_ble_eq_true rfl) ⟨Nat.le_of_ble_eq_true rfl, Nat.le_of_ble_eq_true rfl⟩ dX6_does_66 (fun H locs hP hS => ?_)
                refine lv_iconst (v := (1 : Int32)) F.1.1 F.1.2.1 dX6_does_69 (by decide) ?_
                exact retC F hP hS dX6_does_70 (by decide) hf
            · refine lv_aload_n F.1.1 F.1.2.1 dX6_does_52 rfl (lv_at hl 0 rfl) ?_
              obtain ⟨r_67, μ_65, hc_66, hf⟩ := bnd_some hf
              refine rV1 (R := rmX6_does) (As := []) (rest := []) F hP hS hl (mX6_takeOff l G F.2.2.2.2  _ _ _ hc_66) gX6_does_X6_takeOff rfl hdX6_takeOff rfl rfl rfl ⟨Nat.le_of_ble_eq_true rfl, Nat.le_of_ble_eq_true rfl⟩ (by decide) rfl rfl rfl (Nat.le_of_ble_eq_true rfl) ⟨Nat.le_of_ble_eq_true rfl, Nat.le_of_ble_eq_true rfl⟩ dX6_does_53 (fun H locs hP hS => ?_)
              refine lv_pop F.1.1 F.1.2.1 dX6_does_56 rfl ?_
              refine lv_iload_n F.1.1 F.1.2.1 dX6_does_57 rfl (lv_at hl 1 rfl) ?_
              refine lv_iconst (v := (3 : Int32)) F.1.1 F.1.2.1 dX6_does_58 (by decide) ?_
              refine jc_ne (tgt := 69) F dX6_does_59 (by decide) hf (fun hf => ?_) (fun hf => ?_)
              · refine lv_iconst (v := (1 : Int32)) F.1.1 F.1.2.1 dX6_does_69 (by decide) ?_
                exact retC F hP hS dX6_does_70 (by decide) hf
              · refine lv_aload_n F.1.1 F.1.2.1 dX6_does_62 rfl (lv_at hl 0 rfl) ?_
                refine lv_iconst (v := (0 : Int32)) F.1.1 F.1.2.1 dX6_does_63 (by decide) ?_
                refine lv_iload_n F.1.1 F.1.2.1 dX6_does_64 rfl (lv_at hl 2 rfl) ?_
                refine lv_iload_n F.1.1 F.1.2.1 dX6_does_65 rfl (lv_at hl 2 rfl) ?_
                obtain ⟨u_70, μ_68, hc_69, hf⟩ := bnd_some hf
                refine rVv (R := rmX6_does) (As := [.int (0 : Int32), .int x2, .int x2]) (rest := []) F hP hS hl (mX6_putOn l G F.2.2.2.2 (0 : Int32) x2 x2 _ _ _ hc_69) gX6_does_X6_putOn rfl hdX6_putOn rfl rfl rfl ⟨Nat.le_of_ble_eq_true rfl, Nat.le_of_ble_eq_true rfl⟩ (by decide) rfl rfl rfl (Nat.le_of_ble_eq_true rfl) ⟨Nat.le_of_ble_eq_true rfl, Nat.le_of_ble_eq_true rfl⟩ dX6_does_66 (fun H locs hP hS => ?_)
                refine lv_iconst (v := (1 : Int32)) F.1.1 F.1.2.1 dX6_does_69 (by decide) ?_
                exact retC F hP hS dX6_does_70 (by decide) hf
          · refine lv_aload_n F.1.1 F.1.2.1 dX6_does_36 rfl (lv_at hl 0 rfl) ?_
            refine gt_6_5 F hP 31 rfl inX6_does_6 kX6_does_56 dX6_does_37 ?_
            refine lv_bipush (v := (6 : Int32)) F.1.1 F.1.2.1 dX6_does_40 (by decide) ?_
            refine jc_ne (tgt := 47) F dX6_does_42 (by decide) hf (fun hf => ?_) (fun hf => ?_)
            · refine lv_iload_n F.1.1 F.1.2.1 dX6_does_47 rfl (lv_at hl 1 rfl) ?_
              refine lv_iconst (v := (2 : Int32)) F.1.1 F.1.2.1 dX6_does_48 (by decide) ?_
              refine jc_ne (tgt := 57) F dX6_does_49 (by decide) hf (fun hf => ?_) (fun hf => ?_)
              · refine lv_iload_n F.1.1 F.1.2.1 dX6_does_57 rfl (lv_at hl 1 rfl) ?_
                refine lv_iconst (v := (3 : Int32)) F.1.1 F.1.2.1 dX6_does_58 (by decide) ?_
                refine jc_ne (tgt := 69) F dX6_does_59 (by decide) hf (fun hf => ?_) (fun hf => ?_)
                · refine lv_iconst (v := (1 : Int32)) F.1.1 F.1.2.1 dX6_does_69 (by decide) ?_
                  exact retC F hP hS dX6_does_70 (by decide) hf
                · refine lv_aload_n F.1.1 F.1.2.1 dX6_does_62 rfl (lv_at hl 0 rfl) ?_
                  refine lv_iconst (v := (0 : Int32)) F.1.1 F.1.2.1 dX6_does_63 (by decide) ?_
                  refine lv_iload_n F.1.1 F.1.2.1 dX6_does_64 rfl (lv_at hl 2 rfl) ?_
                  refine lv_iload_n F.1.1 F.1.2.1 dX6_does_65 rfl (lv_at hl 2 rfl) ?_
                  obtain ⟨u_73, μ_71, hc_72, hf⟩ := bnd_some hf
                  refine rVv (R := rmX6_does) (As := [.int (0 : Int32), .int x2, .int x2]) (rest := []) F hP hS hl (mX6_putOn l G F.2.2.2.2 (0 : Int32) x2 x2 _ _ _ hc_72) gX6_does_X6_putOn rfl hdX6_putOn rfl rfl rfl ⟨Nat.le_of_ble_eq_true rfl, Nat.le_of_ble_eq_true rfl⟩ (by decide) rfl rfl rfl (Nat.le_of_ble_eq_true rfl) ⟨Nat.le_of_ble_eq_true rfl, Nat.le_of_ble_eq_true rfl⟩ dX6_does_66 (fun H locs hP hS => ?_)
                  refine lv_iconst (v := (1 : Int32)) F.1.1 F.1.2.1 dX6_does_69 (by decide) ?_
                  exact retC F hP hS dX6_does_70 (by decide) hf
              · refine lv_aload_n F.1.1 F.1.2.1 dX6_does_52 rfl (lv_at hl 0 rfl) ?_
                obtain ⟨r_76, μ_74, hc_75, hf⟩ := bnd_some hf
                refine rV1 (R := rmX6_does) (As := []) (rest := []) F hP hS hl (mX6_takeOff l G F.2.2.2.2  _ _ _ hc_75) gX6_does_X6_takeOff rfl hdX6_takeOff rfl rfl rfl ⟨Nat.le_of_ble_eq_true rfl, Nat.le_of_ble_eq_true rfl⟩ (by decide) rfl rfl rfl (Nat.le_of_ble_eq_true rfl) ⟨Nat.le_of_ble_eq_true rfl, Nat.le_of_ble_eq_true rfl⟩ dX6_does_53 (fun H locs hP hS => ?_)
                refine lv_pop F.1.1 F.1.2.1 dX6_does_56 rfl ?_
                refine lv_iload_n F.1.1 F.1.2.1 dX6_does_57 rfl (lv_at hl 1 rfl) ?_
                refine lv_iconst (v := (3 : Int32)) F.1.1 F.1.2.1 dX6_does_58 (by decide) ?_
                refine jc_ne (tgt := 69) F dX6_does_59 (by decide) hf (fun hf => ?_) (fun hf => ?_)
                · refine lv_iconst (v := (1 : Int32)) F.1.1 F.1.2.1 dX6_does_69 (by decide) ?_
                  exact retC F hP hS dX6_does_70 (by decide) hf
                · refine lv_aload_n F.1.1 F.1.2.1 dX6_does_62 rfl (lv_at hl 0 rfl) ?_
                  refine lv_iconst (v := (0 : Int32)) F.1.1 F.1.2.1 dX6_does_63 (by decide) ?_
                  refine lv_iload_n F.1.1 F.1.2.1 dX6_does_64 rfl (lv_at hl 2 rfl) ?_
                  refine lv_iload_n F.1.1 F.1.2.1 dX6_does_65 rfl (lv_at hl 2 rfl) ?_
                  obtain ⟨u_79, μ_77, hc_78, hf⟩ := bnd_some hf
                  refine rVv (R := rmX6_does) (As := [.int (0 : Int32), .int x2, .int x2]) (rest := []) F hP hS hl (mX6_putOn l G F.2.2.2.2 (0 : Int32) x2 x2 _ _ _ hc_78) gX6_does_X6_putOn rfl hdX6_putOn rfl rfl rfl ⟨Nat.le_of_ble_eq_true rfl, Nat.le_of_ble_eq_true rfl⟩ (by decide) rfl rfl rfl (Nat.le_of_ble_eq_true rfl) ⟨Nat.le_of_ble_eq_true rfl, Nat.le_of_ble_eq_true rfl⟩ dX6_does_66 (fun H locs hP hS => ?_)
                  refine lv_iconst (v := (1 : Int32)) F.1.1 F.1.2.1 dX6_does_69 (by decide) ?_
                  exact retC F hP hS dX6_does_70 (by decide) hf
            · refine lv_iconst (v := (0 : Int32)) F.1.1 F.1.2.1 dX6_does_45 (by decide) ?_
              exact retC F hP hS dX6_does_46 (by decide) hf
  · refine lv_aload_n F.1.1 F.1.2.1 dX6_does_4 rfl (lv_at hl 0 rfl) ?_
    refine lv_iload_n F.1.1 F.1.2.1 dX6_does_5 rfl (lv_at hl 2 rfl) ?_
    refine pt_6_6 F hP hS 31 rfl inX6_does_6 kX6_does_86 dX6_does_6 hf (fun μ_80 H locs hP hS hf => ?_)
    refine lv_iload_n F.1.1 F.1.2.1 dX6_does_9 rfl (lv_at hl 1 rfl) ?_
    refine lv_iconst (v := (1 : Int32)) F.1.1 F.1.2.1 dX6_does_10 (by decide) ?_
    refine jc_ne (tgt := 19) F dX6_does_11 (by decide) hf (fun hf => ?_) (fun hf => ?_)
    · refine lv_iload_n F.1.1 F.1.2.1 dX6_does_19 rfl (lv_at hl 1 rfl) ?_
      refine lv_iconst (v := (2 : Int32)) F.1.1 F.1.2.1 dX6_does_20 (by decide) ?_
      refine jc_ne (tgt := 31) F dX6_does_21 (by decide) hf (fun hf => ?_) (fun hf => ?_)
      · refine lv_iload_n F.1.1 F.1.2.1 dX6_does_31 rfl (lv_at hl 1 rfl) ?_
        refine lv_iconst (v := (3 : Int32)) F.1.1 F.1.2.1 dX6_does_32 (by decide) ?_
        refine jc_ne (tgt := 47) F dX6_does_33 (by decide) hf (fun hf => ?_) (fun hf => ?_)
        · refine lv_iload_n F.1.1 F.1.2.1 dX6_does_47 rfl (lv_at hl 1 rfl) ?_
          refine lv_iconst (v := (2 : Int32)) F.1.1 F.1.2.1 dX6_does_48 (by decide) ?_
          refine jc_ne (tgt := 57) F dX6_does_49 (by decide) hf (fun hf => ?_) (fun hf => ?_)
          · refine lv_iload_n F.1.1 F.1.2.1 dX6_does_57 rfl (lv_at hl 1 rfl) ?_
            refine lv_iconst (v := (3 : Int32)) F.1.1 F.1.2.1 dX6_does_58 (by decide) ?_
            refine jc_ne (tgt := 69) F dX6_does_59 (by decide) hf (fun hf => ?_) (fun hf => ?_)
            · refine lv_iconst (v := (1 : Int32)) F.1.1 F.1.2.1 dX6_does_69 (by decide) ?_
              exact retC F hP hS dX6_does_70 (by decide) hf
            · refine lv_aload_n F.1.1 F.1.2.1 dX6_does_62 rfl (lv_at hl 0 rfl) ?_
              refine lv_iconst (v := (0 : Int32)) F.1.1 F.1.2.1 dX6_does_63 (by decide) ?_
              refine lv_iload_n F.1.1 F.1.2.1 dX6_does_64 rfl (lv_at hl 2 rfl) ?_
              refine lv_iload_n F.1.1 F.1.2.1 dX6_does_65 rfl (lv_at hl 2 rfl) ?_
              obtain ⟨u_83, μ_81, hc_82, hf⟩ := bnd_some hf
              refine rVv (R := rmX6_does) (As := [.int (0 : Int32), .int x2, .int x2]) (rest := []) F hP hS hl (mX6_putOn l G F.2.2.2.2 (0 : Int32) x2 x2 _ _ _ hc_82) gX6_does_X6_putOn rfl hdX6_putOn rfl rfl rfl ⟨Nat.le_of_ble_eq_true rfl, Nat.le_of_ble_eq_true rfl⟩ (by decide) rfl rfl rfl (Nat.le_of_ble_eq_true rfl) ⟨Nat.le_of_ble_eq_true rfl, Nat.le_of_ble_eq_true rfl⟩ dX6_does_66 (fun H locs hP hS => ?_)
              refine lv_iconst (v := (1 : Int32)) F.1.1 F.1.2.1 dX6_does_69 (by decide) ?_
              exact retC F hP hS dX6_does_70 (by decide) hf
          · refine lv_aload_n F.1.1 F.1.2.1 dX6_does_52 rfl (lv_at hl 0 rfl) ?_
            obtain ⟨r_86, μ_84, hc_85, hf⟩ := bnd_some hf
            refine rV1 (R := rmX6_does) (As := []) (rest := []) F hP hS hl (mX6_takeOff l G F.2.2.2.2  _ _ _ hc_85) gX6_does_X6_takeOff rfl hdX6_takeOff rfl rfl rfl ⟨Nat.le_of_ble_eq_true rfl, Nat.le_of_ble_eq_true rfl⟩ (by decide) rfl rfl rfl (Nat.le_of_ble_eq_true rfl) ⟨Nat.le_of_ble_eq_true rfl, Nat.le_of_ble_eq_true rfl⟩ dX6_does_53 (fun H locs hP hS => ?_)
            refine lv_pop F.1.1 F.1.2.1 dX6_does_56 rfl ?_
            refine lv_iload_n F.1.1 F.1.2.1 dX6_does_57 rfl (lv_at hl 1 rfl) ?_
            refine lv_iconst (v := (3 : Int32)) F.1.1 F.1.2.1 dX6_does_58 (by decide) ?_
            refine jc_ne (tgt := 69) F dX6_does_59 (by decide) hf (fun hf => ?_) (fun hf => ?_)
            · refine lv_iconst (v := (1 : Int32)) F.1.1 F.1.2.1 dX6_does_69 (by decide) ?_
              exact retC F hP hS dX6_does_70 (by decide) hf
            · refine lv_aload_n F.1.1 F.1.2.1 dX6_does_62 rfl (lv_at hl 0 rfl) ?_
              refine lv_iconst (v := (0 : Int32)) F.1.1 F.1.2.1 dX6_does_63 (by decide) ?_
              refine lv_iload_n F.1.1 F.1.2.1 dX6_does_64 rfl (lv_at hl 2 rfl) ?_
              refine lv_iload_n F.1.1 F.1.2.1 dX6_does_65 rfl (lv_at hl 2 rfl) ?_
              obtain ⟨u_89, μ_87, hc_88, hf⟩ := bnd_some hf
              refine rVv (R := rmX6_does) (As := [.int (0 : Int32), .int x2, .int x2]) (rest := []) F hP hS hl (mX6_putOn l G F.2.2.2.2 (0 : Int32) x2 x2 _ _ _ hc_88) gX6_does_X6_putOn rfl hdX6_putOn rfl rfl rfl ⟨Nat.le_of_ble_eq_true rfl, Nat.le_of_ble_eq_true rfl⟩ (by decide) rfl rfl rfl (Nat.le_of_ble_eq_true rfl) ⟨Nat.le_of_ble_eq_true rfl, Nat.le_of_ble_eq_true rfl⟩ dX6_does_66 (fun H locs hP hS => ?_)
              refine lv_iconst (v := (1 : Int32)) F.1.1 F.1.2.1 dX6_does_69 (by decide) ?_
              exact retC F hP hS dX6_does_70 (by decide) hf
        · refine lv_aload_n F.1.1 F.1.2.1 dX6_does_36 rfl (lv_at hl 0 rfl) ?_
          refine gt_6_5 F hP 31 rfl inX6_does_6 kX6_does_56 dX6_does_37 ?_
          refine lv_bipush (v := (6 : Int32)) F.1.1 F.1.2.1 dX6_does_40 (by decide) ?_
          refine jc_ne (tgt := 47) F dX6_does_42 (by decide) hf (fun hf => ?_) (fun hf => ?_)
          · refine lv_iload_n F.1.1 F.1.2.1 dX6_does_47 rfl (lv_at hl 1 rfl) ?_
            refine lv_iconst (v := (2 : Int32)) F.1.1 F.1.2.1 dX6_does_48 (by decide) ?_
            refine jc_ne (tgt := 57) F dX6_does_49 (by decide) hf (fun hf => ?_) (fun hf => ?_)
            · refine lv_iload_n F.1.1 F.1.2.1 dX6_does_57 rfl (lv_at hl 1 rfl) ?_
              refine lv_iconst (v := (3 : Int32)) F.1.1 F.1.2.1 dX6_does_58 (by decide) ?_
              refine jc_ne (tgt := 69) F dX6_does_59 (by decide) hf (fun hf => ?_) (fun hf => ?_)
              · refine lv_iconst (v := (1 : Int32)) F.1.1 F.1.2.1 dX6_does_69 (by decide) ?_
                exact retC F hP hS dX6_does_70 (by decide) hf
              · refine lv_aload_n F.1.1 F.1.2.1 dX6_does_62 rfl (lv_at hl 0 rfl) ?_
                refine lv_iconst (v := (0 : Int32)) F.1.1 F.1.2.1 dX6_does_63 (by decide) ?_
                refine lv_iload_n F.1.1 F.1.2.1 dX6_does_64 rfl (lv_at hl 2 rfl) ?_
                refine lv_iload_n F.1.1 F.1.2.1 dX6_does_65 rfl (lv_at hl 2 rfl) ?_
                obtain ⟨u_92, μ_90, hc_91, hf⟩ := bnd_some hf
                refine rVv (R := rmX6_does) (As := [.int (0 : Int32), .int x2, .int x2]) (rest := []) F hP hS hl (mX6_putOn l G F.2.2.2.2 (0 : Int32) x2 x2 _ _ _ hc_91) gX6_does_X6_putOn rfl hdX6_putOn rfl rfl rfl ⟨Nat.le_of_ble_eq_true rfl, Nat.le_of_ble_eq_true rfl⟩ (by decide) rfl rfl rfl (Nat.le_of_ble_eq_true rfl) ⟨Nat.le_of_ble_eq_true rfl, Nat.le_of_ble_eq_true rfl⟩ dX6_does_66 (fun H locs hP hS => ?_)
                refine lv_iconst (v := (1 : Int32)) F.1.1 F.1.2.1 dX6_does_69 (by decide) ?_
                exact retC F hP hS dX6_does_70 (by decide) hf
            · refine lv_aload_n F.1.1 F.1.2.1 dX6_does_52 rfl (lv_at hl 0 rfl) ?_
              obtain ⟨r_95, μ_93, hc_94, hf⟩ := bnd_some hf
              refine rV1 (R := rmX6_does) (As := []) (rest := []) F hP hS hl (mX6_takeOff l G F.2.2.2.2  _ _ _ hc_94) gX6_does_X6_takeOff rfl hdX6_takeOff rfl rfl rfl ⟨Nat.le_of_ble_eq_true rfl, Nat.le_of_ble_eq_true rfl⟩ (by decide) rfl rfl rfl (Nat.le_of_ble_eq_true rfl) ⟨Nat.le_of_ble_eq_true rfl, Nat.le_of_ble_eq_true rfl⟩ dX6_does_53 (fun H locs hP hS => ?_)
              refine lv_pop F.1.1 F.1.2.1 dX6_does_56 rfl ?_
              refine lv_iload_n F.1.1 F.1.2.1 dX6_does_57 rfl (lv_at hl 1 rfl) ?_
              refine lv_iconst (v := (3 : Int32)) F.1.1 F.1.2.1 dX6_does_58 (by decide) ?_
              refine jc_ne (tgt := 69) F dX6_does_59 (by decide) hf (fun hf => ?_) (fun hf => ?_)
              · refine lv_iconst (v := (1 : Int32)) F.1.1 F.1.2.1 dX6_does_69 (by decide) ?_
                exact retC F hP hS dX6_does_70 (by decide) hf
              · refine lv_aload_n F.1.1 F.1.2.1 dX6_does_62 rfl (lv_at hl 0 rfl) ?_
                refine lv_iconst (v := (0 : Int32)) F.1.1 F.1.2.1 dX6_does_63 (by decide) ?_
                refine lv_iload_n F.1.1 F.1.2.1 dX6_does_64 rfl (lv_at hl 2 rfl) ?_
                refine lv_iload_n F.1.1 F.1.2.1 dX6_does_65 rfl (lv_at hl 2 rfl) ?_
                obtain ⟨u_98, μ_96, hc_97, hf⟩ := bnd_some hf
                refine rVv (R := rmX6_does) (As := [.int (0 : Int32), .int x2, .int x2]) (rest := []) F hP hS hl (mX6_putOn l G F.2.2.2.2 (0 : Int32) x2 x2 _ _ _ hc_97) gX6_does_X6_putOn rfl hdX6_putOn rfl rfl rfl ⟨Nat.le_of_ble_eq_true rfl, Nat.le_of_ble_eq_true rfl⟩ (by decide) rfl rfl rfl (Nat.le_of_ble_eq_true rfl) ⟨Nat.le_of_ble_eq_true rfl, Nat.le_of_ble_eq_true rfl⟩ dX6_does_66 (fun H locs hP hS => ?_)
                refine lv_iconst (v := (1 : Int32)) F.1.1 F.1.2.1 dX6_does_69 (by decide) ?_
                exact retC F hP hS dX6_does_70 (by decide) hf
          · refine lv_iconst (v := (0 : Int32)) F.1.1 F.1.2.1 dX6_does_45 (by decide) ?_
            exact retC F hP hS dX6_does_46 (by decide) hf
      · refine lv_aload_n F.1.1 F.1.2.1 dX6_does_24 rfl (lv_at hl 0 rfl) ?_
        obtain ⟨r_101, μ_99, hc_100, hf⟩ := bnd_some hf
        refine rV1 (R := rmX6_does) (As := []) (rest := []) F hP hS hl (mX6_mayPeel l G F.2.2.2.2  _ _ _ hc_100) gX6_does_X6_mayPeel rfl hdX6_mayPeel rfl rfl rfl ⟨Nat.le_of_ble_eq_true rfl, Nat.le_of_ble_eq_true rfl⟩ (by decide) rfl rfl rfl (Nat.le_of_ble_eq_true rfl) ⟨Nat.le_of_ble_eq_true rfl, Nat.le_of_ble_eq_true rfl⟩ dX6_does_25 (fun H locs hP hS => ?_)
        refine jz_eq (tgt := 45) F dX6_does_28 (by decide) hf (fun hf => ?_) (fun hf => ?_)
        · refine lv_iconst (v := (0 : Int32)) F.1.1 F.1.2.1 dX6_does_45 (by decide) ?_
          exact retC F hP hS dX6_does_46 (by decide) hf
        · refine lv_iload_n F.1.1 F.1.2.1 dX6_does_31 rfl (lv_at hl 1 rfl) ?_
          refine lv_iconst (v := (3 : Int32)) F.1.1 F.1.2.1 dX6_does_32 (by decide) ?_
          refine jc_ne (tgt := 47) F dX6_does_33 (by decide) hf (fun hf => ?_) (fun hf => ?_)
          · refine lv_iload_n F.1.1 F.1.2.1 dX6_does_47 rfl (lv_at hl 1 rfl) ?_
            refine lv_iconst (v := (2 : Int32)) F.1.1 F.1.2.1 dX6_does_48 (by decide) ?_
            refine jc_ne (tgt := 57) F dX6_does_49 (by decide) hf (fun hf => ?_) (fun hf => ?_)
            · refine lv_iload_n F.1.1 F.1.2.1 dX6_does_57 rfl (lv_at hl 1 rfl) ?_
              refine lv_iconst (v := (3 : Int32)) F.1.1 F.1.2.1 dX6_does_58 (by decide) ?_
              refine jc_ne (tgt := 69) F dX6_does_59 (by decide) hf (fun hf => ?_) (fun hf => ?_)
              · refine lv_iconst (v := (1 : Int32)) F.1.1 F.1.2.1 dX6_does_69 (by decide) ?_
                exact retC F hP hS dX6_does_70 (by decide) hf
              · refine lv_aload_n F.1.1 F.1.2.1 dX6_does_62 rfl (lv_at hl 0 rfl) ?_
                refine lv_iconst (v := (0 : Int32)) F.1.1 F.1.2.1 dX6_does_63 (by decide) ?_
                refine lv_iload_n F.1.1 F.1.2.1 dX6_does_64 rfl (lv_at hl 2 rfl) ?_
                refine lv_iload_n F.1.1 F.1.2.1 dX6_does_65 rfl (lv_at hl 2 rfl) ?_
                obtain ⟨u_104, μ_102, hc_103, hf⟩ := bnd_some hf
                refine rVv (R := rmX6_does) (As := [.int (0 : Int32), .int x2, .int x2]) (rest := []) F hP hS hl (mX6_putOn l G F.2.2.2.2 (0 : Int32) x2 x2 _ _ _ hc_103) gX6_does_X6_putOn rfl hdX6_putOn rfl rfl rfl ⟨Nat.le_of_ble_eq_true rfl, Nat.le_of_ble_eq_true rfl⟩ (by decide) rfl rfl rfl (Nat.le_of_ble_eq_true rfl) ⟨Nat.le_of_ble_eq_true rfl, Nat.le_of_ble_eq_true rfl⟩ dX6_does_66 (fun H locs hP hS => ?_)
                refine lv_iconst (v := (1 : Int32)) F.1.1 F.1.2.1 dX6_does_69 (by decide) ?_
                exact retC F hP hS dX6_does_70 (by decide) hf
            · refine lv_aload_n F.1.1 F.1.2.1 dX6_does_52 rfl (lv_at hl 0 rfl) ?_
              obtain ⟨r_107, μ_105, hc_106, hf⟩ := bnd_some hf
              refine rV1 (R := rmX6_does) (As := []) (rest := []) F hP hS hl (mX6_takeOff l G F.2.2.2.2  _ _ _ hc_106) gX6_does_X6_takeOff rfl hdX6_takeOff rfl rfl rfl ⟨Nat.le_of_ble_eq_true rfl, Nat.le_of_ble_eq_true rfl⟩ (by decide) rfl rfl rfl (Nat.le_of_ble_eq_true rfl) ⟨Nat.le_of_ble_eq_true rfl, Nat.le_of_ble_eq_true rfl⟩ dX6_does_53 (fun H locs hP hS => ?_)
              refine lv_pop F.1.1 F.1.2.1 dX6_does_56 rfl ?_
              refine lv_iload_n F.1.1 F.1.2.1 dX6_does_57 rfl (lv_at hl 1 rfl) ?_
              refine lv_iconst (v := (3 : Int32)) F.1.1 F.1.2.1 dX6_does_58 (by decide) ?_
              refine jc_ne (tgt := 69) F dX6_does_59 (by decide) hf (fun hf => ?_) (fun hf => ?_)
              · refine lv_iconst (v := (1 : Int32)) F.1.1 F.1.2.1 dX6_does_69 (by decide) ?_
                exact retC F hP hS dX6_does_70 (by decide) hf
              · refine lv_aload_n F.1.1 F.1.2.1 dX6_does_62 rfl (lv_at hl 0 rfl) ?_
                refine lv_iconst (v := (0 : Int32)) F.1.1 F.1.2.1 dX6_does_63 (by decide) ?_
                refine lv_iload_n F.1.1 F.1.2.1 dX6_does_64 rfl (lv_at hl 2 rfl) ?_
                refine lv_iload_n F.1.1 F.1.2.1 dX6_does_65 rfl (lv_at hl 2 rfl) ?_
                obtain ⟨u_110, μ_108, hc_109, hf⟩ := bnd_some hf
                refine rVv (R := rmX6_does) (As := [.int (0 : Int32), .int x2, .int x2]) (rest := []) F hP hS hl (mX6_putOn l G F.2.2.2.2 (0 : Int32) x2 x2 _ _ _ hc_109) gX6_does_X6_putOn rfl hdX6_putOn rfl rfl rfl ⟨Nat.le_of_ble_eq_true rfl, Nat.le_of_ble_eq_true rfl⟩ (by decide) rfl rfl rfl (Nat.le_of_ble_eq_true rfl) ⟨Nat.le_of_ble_eq_true rfl, Nat.le_of_ble_eq_true rfl⟩ dX6_does_66 (fun H locs hP hS => ?_)
                refine lv_iconst (v := (1 : Int32)) F.1.1 F.1.2.1 dX6_does_69 (by decide) ?_
                exact retC F hP hS dX6_does_70 (by decide) hf
          · refine lv_aload_n F.1.1 F.1.2.1 dX6_does_36 rfl (lv_at hl 0 rfl) ?_
            refine gt_6_5 F hP 31 rfl inX6_does_6 kX6_does_56 dX6_does_37 ?_
            refine lv_bipush (v := (6 : Int32)) F.1.1 F.1.2.1 dX6_does_40 (by decide) ?_
            refine jc_ne (tgt := 47) F dX6_does_42 (by decide) hf (fun hf => ?_) (fun hf => ?_)
            · refine lv_iload_n F.1.1 F.1.2.1 dX6_does_47 rfl (lv_at hl 1 rfl) ?_
              refine lv_iconst (v := (2 : Int32)) F.1.1 F.1.2.1 dX6_does_48 (by decide) ?_
              refine jc_ne (tgt := 57) F dX6_does_49 (by decide) hf (fun hf => ?_) (fun hf => ?_)
              · refine lv_iload_n F.1.1 F.1.2.1 dX6_does_57 rfl (lv_at hl 1 rfl) ?_
                refine lv_iconst (v := (3 : Int32)) F.1.1 F.1.2.1 dX6_does_58 (by decide) ?_
                refine jc_ne (tgt := 69) F dX6_does_59 (by decide) hf (fun hf => ?_) (fun hf => ?_)
                · refine lv_iconst (v := (1 : Int32)) F.1.1 F.1.2.1 dX6_does_69 (by decide) ?_
                  exact retC F hP hS dX6_does_70 (by decide) hf
                · refine lv_aload_n F.1.1 F.1.2.1 dX6_does_62 rfl (lv_at hl 0 rfl) ?_
                  refine lv_iconst (v := (0 : Int32)) F.1.1 F.1.2.1 dX6_does_63 (by decide) ?_
                  refine lv_iload_n F.1.1 F.1.2.1 dX6_does_64 rfl (lv_at hl 2 rfl) ?_
                  refine lv_iload_n F.1.1 F.1.2.1 dX6_does_65 rfl (lv_at hl 2 rfl) ?_
                  obtain ⟨u_113, μ_111, hc_112, hf⟩ := bnd_some hf
                  refine rVv (R := rmX6_does) (As := [.int (0 : Int32), .int x2, .int x2]) (rest := []) F hP hS hl (mX6_putOn l G F.2.2.2.2 (0 : Int32) x2 x2 _ _ _ hc_112) gX6_does_X6_putOn rfl hdX6_putOn rfl rfl rfl ⟨Nat.le_of_ble_eq_true rfl, Nat.le_of_ble_eq_true rfl⟩ (by decide) rfl rfl rfl (Nat.le_of_ble_eq_true rfl) ⟨Nat.le_of_ble_eq_true rfl, Nat.le_of_ble_eq_true rfl⟩ dX6_does_66 (fun H locs hP hS => ?_)
                  refine lv_iconst (v := (1 : Int32)) F.1.1 F.1.2.1 dX6_does_69 (by decide) ?_
                  exact retC F hP hS dX6_does_70 (by decide) hf
              · refine lv_aload_n F.1.1 F.1.2.1 dX6_does_52 rfl (lv_at hl 0 rfl) ?_
                obtain ⟨r_116, μ_114, hc_115, hf⟩ := bnd_some hf
                refine rV1 (R := rmX6_does) (As := []) (rest := []) F hP hS hl (mX6_takeOff l G F.2.2.2.2  _ _ _ hc_115) gX6_does_X6_takeOff rfl hdX6_takeOff rfl rfl rfl ⟨Nat.le_of_ble_eq_true rfl, Nat.le_of_ble_eq_true rfl⟩ (by decide) rfl rfl rfl (Nat.le_of_ble_eq_true rfl) ⟨Nat.le_of_ble_eq_true rfl, Nat.le_of_ble_eq_true rfl⟩ dX6_does_53 (fun H locs hP hS => ?_)
                refine lv_pop F.1.1 F.1.2.1 dX6_does_56 rfl ?_
                refine lv_iload_n F.1.1 F.1.2.1 dX6_does_57 rfl (lv_at hl 1 rfl) ?_
                refine lv_iconst (v := (3 : Int32)) F.1.1 F.1.2.1 dX6_does_58 (by decide) ?_
                refine jc_ne (tgt := 69) F dX6_does_59 (by decide) hf (fun hf => ?_) (fun hf => ?_)
                · refine lv_iconst (v := (1 : Int32)) F.1.1 F.1.2.1 dX6_does_69 (by decide) ?_
                  exact retC F hP hS dX6_does_70 (by decide) hf
                · refine lv_aload_n F.1.1 F.1.2.1 dX6_does_62 rfl (lv_at hl 0 rfl) ?_
                  refine lv_iconst (v := (0 : Int32)) F.1.1 F.1.2.1 dX6_does_63 (by decide) ?_
                  refine lv_iload_n F.1.1 F.1.2.1 dX6_does_64 rfl (lv_at hl 2 rfl) ?_
                  refine lv_iload_n F.1.1 F.1.2.1 dX6_does_65 rfl (lv_at hl 2 rfl) ?_
                  obtain ⟨u_119, μ_117, hc_118, hf⟩ := bnd_some hf
                  refine rVv (R := rmX6_does) (As := [.int (0 : Int32), .int x2, .int x2]) (rest := []) F hP hS hl (mX6_putOn l G F.2.2.2.2 (0 : Int32) x2 x2 _ _ _ hc_118) gX6_does_X6_putOn rfl hdX6_putOn rfl rfl rfl ⟨Nat.le_of_ble_eq_true rfl, Nat.le_of_ble_eq_true rfl⟩ (by decide) rfl rfl rfl (Nat.le_of_ble_eq_true rfl) ⟨Nat.le_of_ble_eq_true rfl, Nat.le_of_ble_eq_true rfl⟩ dX6_does_66 (fun H locs hP hS => ?_)
                  refine lv_iconst (v := (1 : Int32)) F.1.1 F.1.2.1 dX6_does_69 (by decide) ?_
                  exact retC F hP hS dX6_does_70 (by decide) hf
            · refine lv_iconst (v := (0 : Int32)) F.1.1 F.1.2.1 dX6_does_45 (by decide) ?_
              exact retC F hP hS dX6_does_46 (by decide) hf
    · refine lv_aload_n F.1.1 F.1.2.1 dX6_does_14 rfl (lv_at hl 0 rfl) ?_
      refine lv_iload_n F.1.1 F.1.2.1 dX6_does_15 rfl (lv_at hl 2 rfl) ?_
      refine pt_6_7 F hP hS 31 rfl inX6_does_6 kX6_does_92 dX6_does_16 hf (fun μ_120 H locs hP hS hf => ?_)
      refine lv_iload_n F.1.1 F.1.2.1 dX6_does_19 rfl (lv_at hl 1 rfl) ?_
      refine lv_iconst (v := (2 : Int32)) F.1.1 F.1.2.1 dX6_does_20 (by decide) ?_
      refine jc_ne (tgt := 31) F dX6_does_21 (by decide) hf (fun hf => ?_) (fun hf => ?_)
      · refine lv_iload_n F.1.1 F.1.2.1 dX6_does_31 rfl (lv_at hl 1 rfl) ?_
        refine lv_iconst (v := (3 : Int32)) F.1.1 F.1.2.1 dX6_does_32 (by decide) ?_
        refine jc_ne (tgt := 47) F dX6_does_33 (by decide) hf (fun hf => ?_) (fun hf => ?_)
        · refine lv_iload_n F.1.1 F.1.2.1 dX6_does_47 rfl (lv_at hl 1 rfl) ?_
          refine lv_iconst (v := (2 : Int32)) F.1.1 F.1.2.1 dX6_does_48 (by decide) ?_
          refine jc_ne (tgt := 57) F dX6_does_49 (by decide) hf (fun hf => ?_) (fun hf => ?_)
          · refine lv_iload_n F.1.1 F.1.2.1 dX6_does_57 rfl (lv_at hl 1 rfl) ?_
            refine lv_iconst (v := (3 : Int32)) F.1.1 F.1.2.1 dX6_does_58 (by decide) ?_
            refine jc_ne (tgt := 69) F dX6_does_59 (by decide) hf (fun hf => ?_) (fun hf => ?_)
            · refine lv_iconst (v := (1 : Int32)) F.1.1 F.1.2.1 dX6_does_69 (by decide) ?_
              exact retC F hP hS dX6_does_70 (by decide) hf
            · refine lv_aload_n F.1.1 F.1.2.1 dX6_does_62 rfl (lv_at hl 0 rfl) ?_
              refine lv_iconst (v := (0 : Int32)) F.1.1 F.1.2.1 dX6_does_63 (by decide) ?_
              refine lv_iload_n F.1.1 F.1.2.1 dX6_does_64 rfl (lv_at hl 2 rfl) ?_
              refine lv_iload_n F.1.1 F.1.2.1 dX6_does_65 rfl (lv_at hl 2 rfl) ?_
              obtain ⟨u_123, μ_121, hc_122, hf⟩ := bnd_some hf
              refine rVv (R := rmX6_does) (As := [.int (0 : Int32), .int x2, .int x2]) (rest := []) F hP hS hl (mX6_putOn l G F.2.2.2.2 (0 : Int32) x2 x2 _ _ _ hc_122) gX6_does_X6_putOn rfl hdX6_putOn rfl rfl rfl ⟨Nat.le_of_ble_eq_true rfl, Nat.le_of_ble_eq_true rfl⟩ (by decide) rfl rfl rfl (Nat.le_of_ble_eq_true rfl) ⟨Nat.le_of_ble_eq_true rfl, Nat.le_of_ble_eq_true rfl⟩ dX6_does_66 (fun H locs hP hS => ?_)
              refine lv_iconst (v := (1 : Int32)) F.1.1 F.1.2.1 dX6_does_69 (by decide) ?_
              exact retC F hP hS dX6_does_70 (by decide) hf
          · refine lv_aload_n F.1.1 F.1.2.1 dX6_does_52 rfl (lv_at hl 0 rfl) ?_
            obtain ⟨r_126, μ_124, hc_125, hf⟩ := bnd_some hf
            refine rV1 (R := rmX6_does) (As := []) (rest := []) F hP hS hl (mX6_takeOff l G F.2.2.2.2  _ _ _ hc_125) gX6_does_X6_takeOff rfl hdX6_takeOff rfl rfl rfl ⟨Nat.le_of_ble_eq_true rfl, Nat.le_of_ble_eq_true rfl⟩ (by decide) rfl rfl rfl (Nat.le_of_ble_eq_true rfl) ⟨Nat.le_of_ble_eq_true rfl, Nat.le_of_ble_eq_true rfl⟩ dX6_does_53 (fun H locs hP hS => ?_)
            refine lv_pop F.1.1 F.1.2.1 dX6_does_56 rfl ?_
            refine lv_iload_n F.1.1 F.1.2.1 dX6_does_57 rfl (lv_at hl 1 rfl) ?_
            refine lv_iconst (v := (3 : Int32)) F.1.1 F.1.2.1 dX6_does_58 (by decide) ?_
            refine jc_ne (tgt := 69) F dX6_does_59 (by decide) hf (fun hf => ?_) (fun hf => ?_)
            · refine lv_iconst (v := (1 : Int32)) F.1.1 F.1.2.1 dX6_does_69 (by decide) ?_
              exact retC F hP hS dX6_does_70 (by decide) hf
            · refine lv_aload_n F.1.1 F.1.2.1 dX6_does_62 rfl (lv_at hl 0 rfl) ?_
              refine lv_iconst (v := (0 : Int32)) F.1.1 F.1.2.1 dX6_does_63 (by decide) ?_
              refine lv_iload_n F.1.1 F.1.2.1 dX6_does_64 rfl (lv_at hl 2 rfl) ?_
              refine lv_iload_n F.1.1 F.1.2.1 dX6_does_65 rfl (lv_at hl 2 rfl) ?_
              obtain ⟨u_129, μ_127, hc_128, hf⟩ := bnd_some hf
              refine rVv (R := rmX6_does) (As := [.int (0 : Int32), .int x2, .int x2]) (rest := []) F hP hS hl (mX6_putOn l G F.2.2.2.2 (0 : Int32) x2 x2 _ _ _ hc_128) gX6_does_X6_putOn rfl hdX6_putOn rfl rfl rfl ⟨Nat.le_of_ble_eq_true rfl, Nat.le_of_ble_eq_true rfl⟩ (by decide) rfl rfl rfl (Nat.le_of_ble_eq_true rfl) ⟨Nat.le_of_ble_eq_true rfl, Nat.le_of_ble_eq_true rfl⟩ dX6_does_66 (fun H locs hP hS => ?_)
              refine lv_iconst (v := (1 : Int32)) F.1.1 F.1.2.1 dX6_does_69 (by decide) ?_
              exact retC F hP hS dX6_does_70 (by decide) hf
        · refine lv_aload_n F.1.1 F.1.2.1 dX6_does_36 rfl (lv_at hl 0 rfl) ?_
          refine gt_6_5 F hP 31 rfl inX6_does_6 kX6_does_56 dX6_does_37 ?_
          refine lv_bipush (v := (6 : Int32)) F.1.1 F.1.2.1 dX6_does_40 (by decide) ?_
          refine jc_ne (tgt := 47) F dX6_does_42 (by decide) hf (fun hf => ?_) (fun hf => ?_)
          · refine lv_iload_n F.1.1 F.1.2.1 dX6_does_47 rfl (lv_at hl 1 rfl) ?_
            refine lv_iconst (v := (2 : Int32)) F.1.1 F.1.2.1 dX6_does_48 (by decide) ?_
            refine jc_ne (tgt := 57) F dX6_does_49 (by decide) hf (fun hf => ?_) (fun hf => ?_)
            · refine lv_iload_n F.1.1 F.1.2.1 dX6_does_57 rfl (lv_at hl 1 rfl) ?_
              refine lv_iconst (v := (3 : Int32)) F.1.1 F.1.2.1 dX6_does_58 (by decide) ?_
              refine jc_ne (tgt := 69) F dX6_does_59 (by decide) hf (fun hf => ?_) (fun hf => ?_)
              · refine lv_iconst (v := (1 : Int32)) F.1.1 F.1.2.1 dX6_does_69 (by decide) ?_
                exact retC F hP hS dX6_does_70 (by decide) hf
              · refine lv_aload_n F.1.1 F.1.2.1 dX6_does_62 rfl (lv_at hl 0 rfl) ?_
                refine lv_iconst (v := (0 : Int32)) F.1.1 F.1.2.1 dX6_does_63 (by decide) ?_
                refine lv_iload_n F.1.1 F.1.2.1 dX6_does_64 rfl (lv_at hl 2 rfl) ?_
                refine lv_iload_n F.1.1 F.1.2.1 dX6_does_65 rfl (lv_at hl 2 rfl) ?_
                obtain ⟨u_132, μ_130, hc_131, hf⟩ := bnd_some hf
                refine rVv (R := rmX6_does) (As := [.int (0 : Int32), .int x2, .int x2]) (rest := []) F hP hS hl (mX6_putOn l G F.2.2.2.2 (0 : Int32) x2 x2 _ _ _ hc_131) gX6_does_X6_putOn rfl hdX6_putOn rfl rfl rfl ⟨Nat.le_of_ble_eq_true rfl, Nat.le_of_ble_eq_true rfl⟩ (by decide) rfl rfl rfl (Nat.le_of_ble_eq_true rfl) ⟨Nat.le_of_ble_eq_true rfl, Nat.le_of_ble_eq_true rfl⟩ dX6_does_66 (fun H locs hP hS => ?_)
                refine lv_iconst (v := (1 : Int32)) F.1.1 F.1.2.1 dX6_does_69 (by decide) ?_
                exact retC F hP hS dX6_does_70 (by decide) hf
            · refine lv_aload_n F.1.1 F.1.2.1 dX6_does_52 rfl (lv_at hl 0 rfl) ?_
              obtain ⟨r_135, μ_133, hc_134, hf⟩ := bnd_some hf
              refine rV1 (R := rmX6_does) (As := []) (rest := []) F hP hS hl (mX6_takeOff l G F.2.2.2.2  _ _ _ hc_134) gX6_does_X6_takeOff rfl hdX6_takeOff rfl rfl rfl ⟨Nat.le_of_ble_eq_true rfl, Nat.le_of_ble_eq_true rfl⟩ (by decide) rfl rfl rfl (Nat.le_of_ble_eq_true rfl) ⟨Nat.le_of_ble_eq_true rfl, Nat.le_of_ble_eq_true rfl⟩ dX6_does_53 (fun H locs hP hS => ?_)
              refine lv_pop F.1.1 F.1.2.1 dX6_does_56 rfl ?_
              refine lv_iload_n F.1.1 F.1.2.1 dX6_does_57 rfl (lv_at hl 1 rfl) ?_
              refine lv_iconst (v := (3 : Int32)) F.1.1 F.1.2.1 dX6_does_58 (by decide) ?_
              refine jc_ne (tgt := 69) F dX6_does_59 (by decide) hf (fun hf => ?_) (fun hf => ?_)
              · refine lv_iconst (v := (1 : Int32)) F.1.1 F.1.2.1 dX6_does_69 (by decide) ?_
                exact retC F hP hS dX6_does_70 (by decide) hf
              · refine lv_aload_n F.1.1 F.1.2.1 dX6_does_62 rfl (lv_at hl 0 rfl) ?_
                refine lv_iconst (v := (0 : Int32)) F.1.1 F.1.2.1 dX6_does_63 (by decide) ?_
                refine lv_iload_n F.1.1 F.1.2.1 dX6_does_64 rfl (lv_at hl 2 rfl) ?_
                refine lv_iload_n F.1.1 F.1.2.1 dX6_does_65 rfl (lv_at hl 2 rfl) ?_
                obtain ⟨u_138, μ_136, hc_137, hf⟩ := bnd_some hf
                refine rVv (R := rmX6_does) (As := [.int (0 : Int32), .int x2, .int x2]) (rest := []) F hP hS hl (mX6_putOn l G F.2.2.2.2 (0 : Int32) x2 x2 _ _ _ hc_137) gX6_does_X6_putOn rfl hdX6_putOn rfl rfl rfl ⟨Nat.le_of_ble_eq_true rfl, Nat.le_of_ble_eq_true rfl⟩ (by decide) rfl rfl rfl (Nat.le_of_ble_eq_true rfl) ⟨Nat.le_of_ble_eq_true rfl, Nat.le_of_ble_eq_true rfl⟩ dX6_does_66 (fun H locs hP hS => ?_)
                refine lv_iconst (v := (1 : Int32)) F.1.1 F.1.2.1 dX6_does_69 (by decide) ?_
                exact retC F hP hS dX6_does_70 (by decide) hf
          · refine lv_iconst (v := (0 : Int32)) F.1.1 F.1.2.1 dX6_does_45 (by decide) ?_
            exact retC F hP hS dX6_does_46 (by decide) hf
      · refine lv_aload_n F.1.1 F.1.2.1 dX6_does_24 rfl (lv_at hl 0 rfl) ?_
        obtain ⟨r_141, μ_139, hc_140, hf⟩ := bnd_some hf
        refine rV1 (R := rmX6_does) (As := []) (rest := []) F hP hS hl (mX6_mayPeel l G F.2.2.2.2  _ _ _ hc_140) gX6_does_X6_mayPeel rfl hdX6_mayPeel rfl rfl rfl ⟨Nat.le_of_ble_eq_true rfl, Nat.le_of_ble_eq_true rfl⟩ (by decide) rfl rfl rfl (Nat.le_of_ble_eq_true rfl) ⟨Nat.le_of_ble_eq_true rfl, Nat.le_of_ble_eq_true rfl⟩ dX6_does_25 (fun H locs hP hS => ?_)
        refine jz_eq (tgt := 45) F dX6_does_28 (by decide) hf (fun hf => ?_) (fun hf => ?_)
        · refine lv_iconst (v := (0 : Int32)) F.1.1 F.1.2.1 dX6_does_45 (by decide) ?_
          exact retC F hP hS dX6_does_46 (by decide) hf
        · refine lv_iload_n F.1.1 F.1.2.1 dX6_does_31 rfl (lv_at hl 1 rfl) ?_
          refine lv_iconst (v := (3 : Int32)) F.1.1 F.1.2.1 dX6_does_32 (by decide) ?_
          refine jc_ne (tgt := 47) F dX6_does_33 (by decide) hf (fun hf => ?_) (fun hf => ?_)
          · refine lv_iload_n F.1.1 F.1.2.1 dX6_does_47 rfl (lv_at hl 1 rfl) ?_
            refine lv_iconst (v := (2 : Int32)) F.1.1 F.1.2.1 dX6_does_48 (by decide) ?_
            refine jc_ne (tgt := 57) F dX6_does_49 (by decide) hf (fun hf => ?_) (fun hf => ?_)
            · refine lv_iload_n F.1.1 F.1.2.1 dX6_does_57 rfl (lv_at hl 1 rfl) ?_
              refine lv_iconst (v := (3 : Int32)) F.1.1 F.1.2.1 dX6_does_58 (by decide) ?_
              refine jc_ne (tgt := 69) F dX6_does_59 (by decide) hf (fun hf => ?_) (fun hf => ?_)
              · refine lv_iconst (v := (1 : Int32)) F.1.1 F.1.2.1 dX6_does_69 (by decide) ?_
                exact retC F hP hS dX6_does_70 (by decide) hf
              · refine lv_aload_n F.1.1 F.1.2.1 dX6_does_62 rfl (lv_at hl 0 rfl) ?_
                refine lv_iconst (v := (0 : Int32)) F.1.1 F.1.2.1 dX6_does_63 (by decide) ?_
                refine lv_iload_n F.1.1 F.1.2.1 dX6_does_64 rfl (lv_at hl 2 rfl) ?_
                refine lv_iload_n F.1.1 F.1.2.1 dX6_does_65 rfl (lv_at hl 2 rfl) ?_
                obtain ⟨u_144, μ_142, hc_143, hf⟩ := bnd_some hf
                refine rVv (R := rmX6_does) (As := [.int (0 : Int32), .int x2, .int x2]) (rest := []) F hP hS hl (mX6_putOn l G F.2.2.2.2 (0 : Int32) x2 x2 _ _ _ hc_143) gX6_does_X6_putOn rfl hdX6_putOn rfl rfl rfl ⟨Nat.le_of_ble_eq_true rfl, Nat.le_of_ble_eq_true rfl⟩ (by decide) rfl rfl rfl (Nat.le_of_ble_eq_true rfl) ⟨Nat.le_of_ble_eq_true rfl, Nat.le_of_ble_eq_true rfl⟩ dX6_does_66 (fun H locs hP hS => ?_)
                refine lv_iconst (v := (1 : Int32)) F.1.1 F.1.2.1 dX6_does_69 (by decide) ?_
                exact retC F hP hS dX6_does_70 (by decide) hf
            · refine lv_aload_n F.1.1 F.1.2.1 dX6_does_52 rfl (lv_at hl 0 rfl) ?_
              obtain ⟨r_147, μ_145, hc_146, hf⟩ := bnd_some hf
              refine rV1 (R := rmX6_does) (As := []) (rest := []) F hP hS hl (mX6_takeOff l G F.2.2.2.2  _ _ _ hc_146) gX6_does_X6_takeOff rfl hdX6_takeOff rfl rfl rfl ⟨Nat.le_of_ble_eq_true rfl, Nat.le_of_ble_eq_true rfl⟩ (by decide) rfl rfl rfl (Nat.le_of_ble_eq_true rfl) ⟨Nat.le_of_ble_eq_true rfl, Nat.le_of_ble_eq_true rfl⟩ dX6_does_53 (fun H locs hP hS => ?_)
              refine lv_pop F.1.1 F.1.2.1 dX6_does_56 rfl ?_
              refine lv_iload_n F.1.1 F.1.2.1 dX6_does_57 rfl (lv_at hl 1 rfl) ?_
              refine lv_iconst (v := (3 : Int32)) F.1.1 F.1.2.1 dX6_does_58 (by decide) ?_
              refine jc_ne (tgt := 69) F dX6_does_59 (by decide) hf (fun hf => ?_) (fun hf => ?_)
              · refine lv_iconst (v := (1 : Int32)) F.1.1 F.1.2.1 dX6_does_69 (by decide) ?_
                exact retC F hP hS dX6_does_70 (by decide) hf
              · refine lv_aload_n F.1.1 F.1.2.1 dX6_does_62 rfl (lv_at hl 0 rfl) ?_
                refine lv_iconst (v := (0 : Int32)) F.1.1 F.1.2.1 dX6_does_63 (by decide) ?_
                refine lv_iload_n F.1.1 F.1.2.1 dX6_does_64 rfl (lv_at hl 2 rfl) ?_
                refine lv_iload_n F.1.1 F.1.2.1 dX6_does_65 rfl (lv_at hl 2 rfl) ?_
                obtain ⟨u_150, μ_148, hc_149, hf⟩ := bnd_some hf
                refine rVv (R := rmX6_does) (As := [.int (0 : Int32), .int x2, .int x2]) (rest := []) F hP hS hl (mX6_putOn l G F.2.2.2.2 (0 : Int32) x2 x2 _ _ _ hc_149) gX6_does_X6_putOn rfl hdX6_putOn rfl rfl rfl ⟨Nat.le_of_ble_eq_true rfl, Nat.le_of_ble_eq_true rfl⟩ (by decide) rfl rfl rfl (Nat.le_of_ble_eq_true rfl) ⟨Nat.le_of_ble_eq_true rfl, Nat.le_of_ble_eq_true rfl⟩ dX6_does_66 (fun H locs hP hS => ?_)
                refine lv_iconst (v := (1 : Int32)) F.1.1 F.1.2.1 dX6_does_69 (by decide) ?_
                exact retC F hP hS dX6_does_70 (by decide) hf
          · refine lv_aload_n F.1.1 F.1.2.1 dX6_does_36 rfl (lv_at hl 0 rfl) ?_
            refine gt_6_5 F hP 31 rfl inX6_does_6 kX6_does_56 dX6_does_37 ?_
            refine lv_bipush (v := (6 : Int32)) F.1.1 F.1.2.1 dX6_does_40 (by decide) ?_
            refine jc_ne (tgt := 47) F dX6_does_42 (by decide) hf (fun hf => ?_) (fun hf => ?_)
            · refine lv_iload_n F.1.1 F.1.2.1 dX6_does_47 rfl (lv_at hl 1 rfl) ?_
              refine lv_iconst (v := (2 : Int32)) F.1.1 F.1.2.1 dX6_does_48 (by decide) ?_
              refine jc_ne (tgt := 57) F dX6_does_49 (by decide) hf (fun hf => ?_) (fun hf => ?_)
              · refine lv_iload_n F.1.1 F.1.2.1 dX6_does_57 rfl (lv_at hl 1 rfl) ?_
                refine lv_iconst (v := (3 : Int32)) F.1.1 F.1.2.1 dX6_does_58 (by decide) ?_
                refine jc_ne (tgt := 69) F dX6_does_59 (by decide) hf (fun hf => ?_) (fun hf => ?_)
                · refine lv_iconst (v := (1 : Int32)) F.1.1 F.1.2.1 dX6_does_69 (by decide) ?_
                  exact retC F hP hS dX6_does_70 (by decide) hf
                · refine lv_aload_n F.1.1 F.1.2.1 dX6_does_62 rfl (lv_at hl 0 rfl) ?_
                  refine lv_iconst (v := (0 : Int32)) F.1.1 F.1.2.1 dX6_does_63 (by decide) ?_
                  refine lv_iload_n F.1.1 F.1.2.1 dX6_does_64 rfl (lv_at hl 2 rfl) ?_
                  refine lv_iload_n F.1.1 F.1.2.1 dX6_does_65 rfl (lv_at hl 2 rfl) ?_
                  obtain ⟨u_153, μ_151, hc_152, hf⟩ := bnd_some hf
                  refine rVv (R := rmX6_does) (As := [.int (0 : Int32), .int x2, .int x2]) (rest := []) F hP hS hl (mX6_putOn l G F.2.2.2.2 (0 : Int32) x2 x2 _ _ _ hc_152) gX6_does_X6_putOn rfl hdX6_putOn rfl rfl rfl ⟨Nat.le_of_ble_eq_true rfl, Nat.le_of_ble_eq_true rfl⟩ (by decide) rfl rfl rfl (Nat.le_of_ble_eq_true rfl) ⟨Nat.le_of_ble_eq_true rfl, Nat.le_of_ble_eq_true rfl⟩ dX6_does_66 (fun H locs hP hS => ?_)
                  refine lv_iconst (v := (1 : Int32)) F.1.1 F.1.2.1 dX6_does_69 (by decide) ?_
                  exact retC F hP hS dX6_does_70 (by decide) hf
              · refine lv_aload_n F.1.1 F.1.2.1 dX6_does_52 rfl (lv_at hl 0 rfl) ?_
                obtain ⟨r_156, μ_154, hc_155, hf⟩ := bnd_some hf
                refine rV1 (R := rmX6_does) (As := []) (rest := []) F hP hS hl (mX6_takeOff l G F.2.2.2.2  _ _ _ hc_155) gX6_does_X6_takeOff rfl hdX6_takeOff rfl rfl rfl ⟨Nat.le_of_ble_eq_true rfl, Nat.le_of_ble_eq_true rfl⟩ (by decide) rfl rfl rfl (Nat.le_of_ble_eq_true rfl) ⟨Nat.le_of_ble_eq_true rfl, Nat.le_of_ble_eq_true rfl⟩ dX6_does_53 (fun H locs hP hS => ?_)
                refine lv_pop F.1.1 F.1.2.1 dX6_does_56 rfl ?_
                refine lv_iload_n F.1.1 F.1.2.1 dX6_does_57 rfl (lv_at hl 1 rfl) ?_
                refine lv_iconst (v := (3 : Int32)) F.1.1 F.1.2.1 dX6_does_58 (by decide) ?_
                refine jc_ne (tgt := 69) F dX6_does_59 (by decide) hf (fun hf => ?_) (fun hf => ?_)
                · refine lv_iconst (v := (1 : Int32)) F.1.1 F.1.2.1 dX6_does_69 (by decide) ?_
                  exact retC F hP hS dX6_does_70 (by decide) hf
                · refine lv_aload_n F.1.1 F.1.2.1 dX6_does_62 rfl (lv_at hl 0 rfl) ?_
                  refine lv_iconst (v := (0 : Int32)) F.1.1 F.1.2.1 dX6_does_63 (by decide) ?_
                  refine lv_iload_n F.1.1 F.1.2.1 dX6_does_64 rfl (lv_at hl 2 rfl) ?_
                  refine lv_iload_n F.1.1 F.1.2.1 dX6_does_65 rfl (lv_at hl 2 rfl) ?_
                  obtain ⟨u_159, μ_157, hc_158, hf⟩ := bnd_some hf
                  refine rVv (R := rmX6_does) (As := [.int (0 : Int32), .int x2, .int x2]) (rest := []) F hP hS hl (mX6_putOn l G F.2.2.2.2 (0 : Int32) x2 x2 _ _ _ hc_158) gX6_does_X6_putOn rfl hdX6_putOn rfl rfl rfl ⟨Nat.le_of_ble_eq_true rfl, Nat.le_of_ble_eq_true rfl⟩ (by decide) rfl rfl rfl (Nat.le_of_ble_eq_true rfl) ⟨Nat.le_of_ble_eq_true rfl, Nat.le_of_ble_eq_true rfl⟩ dX6_does_66 (fun H locs hP hS => ?_)
                  refine lv_iconst (v := (1 : Int32)) F.1.1 F.1.2.1 dX6_does_69 (by decide) ?_
                  exact retC F hP hS dX6_does_70 (by decide) hf
            · refine lv_iconst (v := (0 : Int32)) F.1.1 F.1.2.1 dX6_does_45 (by decide) ?_
              exact retC F hP hS dX6_does_46 (by decide) hf
