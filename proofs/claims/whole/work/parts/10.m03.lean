abbrev rmX5_isAct : Room := { frames := 1, cells := 0, slots := 0, locals := 21 }
theorem hdX5_isAct : yX5_isAct.cls ≠ "java/lang/invoke/MethodHandle" ∧ yX5_isAct.cls ≠ "java/lang/invoke/VarHandle" ∧ (parseMethodDescriptor yX5_isAct.desc).map (fun d => d.parameters.length) = some 2 := by decide +kernel
set_option maxHeartbeats 4000000 in
set_option maxRecDepth 100000 in
theorem mX5_isAct (l : Launch) (G : GT) (hG : GD G) (x0 : Int32) (x1 : Int32) (μ : Mem) (r : Int32) (μ' : Mem) (hf : fX5_isAct x0 x1 μ = some (r, μ')) : Ct l yX5_isAct wsX5_isAct rmX5_isAct G [.int x0, .int x1] μ (some (.int r)) μ' := by
  refine Ct.of (cc := cX5_isAct) (maxL := 2) (ret := (some .boolean)) (own := RX5) hG (by decide) rfl rfl (Nat.le_of_ble_eq_true rfl) ?_
  intro p e s m args below meth c ls H locs F hl hP hS
  have hl : lv_has ls 2 [(0, .int x0), (1, .int x1)] := hl
  unfold fX5_isAct at hf
  refine lv_iload_n F.1.1 F.1.2.1 dX5_isAct_0 rfl (lv_at hl 0 rfl) ?_
  refine split_sw (k := (0 : Int32)) hf (fun hk0 hf => ?_) (fun hn0 hf => ?_)
  · refine lv_tableIn (tgt := 32) (off := 31) F.1.1 F.1.2.1 dX5_isAct_1 (by rw [hk0]; decide) (by rw [hk0]; decide) (by rw [hk0]; rfl) (by decide) ?_
    refine lv_iload_n F.1.1 F.1.2.1 dX5_isAct_32 rfl (lv_at hl 1 rfl) ?_
    refine lv_bipush (v := (20 : Int32)) F.1.1 F.1.2.1 dX5_isAct_33 (by decide) ?_
    obtain ⟨r_3, μ_1, hc_2, hf⟩ := bnd_some hf
    refine rS1 (R := rmX5_isAct) (As := [.int x1, .int (20 : Int32)]) (rest := []) F hP hS hl (mX5_isUpTo l G F.2.2.2.2 x1 (20 : Int32) _ _ _ hc_2) gX5_isAct_X5_isUpTo hdX5_isUpTo rfl rfl rfl ⟨Nat.le_of_ble_eq_true rfl, Nat.le_of_ble_eq_true rfl⟩ rfl rfl (Nat.le_of_ble_eq_true rfl) ⟨Nat.le_of_ble_eq_true rfl, Nat.le_of_ble_eq_true rfl⟩ dX5_isAct_35 (fun H locs hP hS => ?_)
    exact retZ F hP hS dX5_isAct_38 hf
  refine split_sw (k := (1 : Int32)) hf (fun hk1 hf => ?_) (fun hn1 hf => ?_)
  · refine lv_tableIn (tgt := 39) (off := 38) F.1.1 F.1.2.1 dX5_isAct_1 (by rw [hk1]; decide) (by rw [hk1]; decide) (by rw [hk1]; rfl) (by decide) ?_
    refine lv_iload_n F.1.1 F.1.2.1 dX5_isAct_39 rfl (lv_at hl 1 rfl) ?_
    refine lv_bipush (v := (9 : Int32)) F.1.1 F.1.2.1 dX5_isAct_40 (by decide) ?_
    obtain ⟨r_6, μ_4, hc_5, hf⟩ := bnd_some hf
    refine rS1 (R := rmX5_isAct) (As := [.int x1, .int (9 : Int32)]) (rest := []) F hP hS hl (mX5_isUpTo l G F.2.2.2.2 x1 (9 : Int32) _ _ _ hc_5) gX5_isAct_X5_isUpTo hdX5_isUpTo rfl rfl rfl ⟨Nat.le_of_ble_eq_true rfl, Nat.le_of_ble_eq_true rfl⟩ rfl rfl (Nat.le_of_ble_eq_true rfl) ⟨Nat.le_of_ble_eq_true rfl, Nat.le_of_ble_eq_true rfl⟩ dX5_isAct_42 (fun H locs hP hS => ?_)
    exact retZ F hP hS dX5_isAct_45 hf
  refine split_sw (k := (2 : Int32)) hf (fun hk2 hf => ?_) (fun hn2 hf => ?_)
  · refine lv_tableIn (tgt := 46) (off := 45) F.1.1 F.1.2.1 dX5_isAct_1 (by rw [hk2]; decide) (by rw [hk2]; decide) (by rw [hk2]; rfl) (by decide) ?_
    refine lv_iload_n F.1.1 F.1.2.1 dX5_isAct_46 rfl (lv_at hl 1 rfl) ?_
    refine jz_ne (tgt := 54) F dX5_isAct_47 (by decide) hf (fun hf => ?_) (fun hf => ?_)
    · refine lv_iconst (v := (0 : Int32)) F.1.1 F.1.2.1 dX5_isAct_54 (by decide) ?_
      exact retC F hP hS dX5_isAct_55 (by decide) hf
    · refine lv_iconst (v := (1 : Int32)) F.1.1 F.1.2.1 dX5_isAct_50 (by decide) ?_
      refine lv_goto (tgt := 55) F.1.1 F.1.2.1 dX5_isAct_51 (by decide) ?_
      exact retC F hP hS dX5_isAct_55 (by decide) hf
  refine split_sw (k := (3 : Int32)) hf (fun hk3 hf => ?_) (fun hn3 hf => ?_)
  · refine lv_tableIn (tgt := 39) (off := 38) F.1.1 F.1.2.1 dX5_isAct_1 (by rw [hk3]; decide) (by rw [hk3]; decide) (by rw [hk3]; rfl) (by decide) ?_
    refine lv_iload_n F.1.1 F.1.2.1 dX5_isAct_39 rfl (lv_at hl 1 rfl) ?_
    refine lv_bipush (v := (9 : Int32)) F.1.1 F.1.2.1 dX5_isAct_40 (by decide) ?_
    obtain ⟨r_9, μ_7, hc_8, hf⟩ := bnd_some hf
    refine rS1 (R := rmX5_isAct) (As := [.int x1, .int (9 : Int32)]) (rest := []) F hP hS hl (mX5_isUpTo l G F.2.2.2.2 x1 (9 : Int32) _ _ _ hc_8) gX5_isAct_X5_isUpTo hdX5_isUpTo rfl rfl rfl ⟨Nat.le_of_ble_eq_true rfl, Nat.le_of_ble_eq_true rfl⟩ rfl rfl (Nat.le_of_ble_eq_true rfl) ⟨Nat.le_of_ble_eq_true rfl, Nat.le_of_ble_eq_true rfl⟩ dX5_isAct_42 (fun H locs hP hS => ?_)
    exact retZ F hP hS dX5_isAct_45 hf
  refine lv_tableOut (tgt := 56) F.1.1 F.1.2.1 dX5_isAct_1 (by have q0 := lv_neT hn0 (a := 0) (by decide); have q1 := lv_neT hn1 (a := 1) (by decide); have q2 := lv_neT hn2 (a := 2) (by decide); have q3 := lv_neT hn3 (a := 3) (by decide); omega) (by decide) ?_
  refine lv_iconst (v := (0 : Int32)) F.1.1 F.1.2.1 dX5_isAct_56 (by decide) ?_
  exact retC F hP hS dX5_isAct_57 (by decide) hf
abbrev rmX5_areActs : Room := { frames := 2, cells := 0, slots := 0, locals := 42 }
theorem hdX5_areActs : yX5_areActs.cls ≠ "java/lang/invoke/MethodHandle" ∧ yX5_areActs.cls ≠ "java/lang/invoke/VarHandle" ∧ (parseMethodDescriptor yX5_areActs.desc).map (fun d => d.parameters.length) = some 3 := by decide +kernel
set_option maxHeartbeats 4000000 in
set_option maxRecDepth 100000 in
theorem lX5_areActs_L2 (l : Launch) (G : GT) {p : Program} {e : Env} {s : State} {m : MethodId} {args : Array Value} {below : List Frame} {meth : Method} {c : Code} (F : Fx p s m args meth c cX5_areActs 5 wsX5_areActs RX5 (some .boolean) G) (j0 : Nat) (sj0 : sh j0 = 3) (x1 : Int32) (x2 : Int32) (r : Int32) (μ' : Mem) : ∀ (fuel : Nat), ∀ (x3 : Int32) (μ : Mem) (H : Heap) (locs : List Loc) (ls : Array Slot), Hh G μ H → va_S (gA G) s.heap H locs → lv_has ls 5 [(0, .ref (ga G j0)), (1, .int x1), (2, .int x2), (3, .int x3)] → fX5_areActs_L2 j0 x1 x2 fuel x3 μ = some (r, μ') → W p l e rmX5_areActs s m args below meth c H locs 0 0 (MQ below (Qg G (some (.int r)) μ') args s 0 0 (gA G)) (F0 m 2 ls []) := by
  intro fuel
  induction fuel with
  | zero =>
    intro x3 μ H locs ls hP hS hl hf
    exact absurd hf (by intro h; cases h)
  | succ fuel ih2 =>
    intro x3 μ H locs ls hP hS hl hf
    have hf : sX5_areActs_L2 (fX5_areActs_L2 j0 x1 x2 fuel) j0 x1 x2 x3 μ = some (r, μ') := hf
    unfold sX5_areActs_L2 at hf
    refine lv_iload_n F.1.1 F.1.2.1 dX5_areActs_2 rfl (lv_at hl 3 rfl) ?_
    refine lv_iload_n F.1.1 F.1.2.1 dX5_areActs_3 rfl (lv_at hl 2 rfl) ?_
    refine jc_ge (tgt := 42) F dX5_areActs_4 (by decide) hf (fun hf => ?_) (fun hf => ?_)
    · refine lv_iconst (v := (1 : Int32)) F.1.1 F.1.2.1 dX5_areActs_42 (by decide) ?_
      exact retC F hP hS dX5_areActs_43 (by decide) hf
    · refine lv_iload_n F.1.1 F.1.2.1 dX5_areActs_7 rfl (lv_at hl 1 rfl) ?_
      refine lv_iconst (v := (2 : Int32)) F.1.1 F.1.2.1 dX5_areActs_8 (by decide) ?_
      refine lv_iload_n F.1.1 F.1.2.1 dX5_areActs_9 rfl (lv_at hl 3 rfl) ?_
      refine lv_imul F.1.1 F.1.2.1 dX5_areActs_10 ?_
      refine lv_iadd F.1.1 F.1.2.1 dX5_areActs_11 ?_
      refine top_i hf (fun y_1 hf => ?_)
      refine lv_istore (lv' := [(4, .int y_1), (0, .ref (ga G j0)), (1, .int x1), (2, .int x2), (3, .int x3)]) F.1.1 F.1.2.1 dX5_areActs_12 hl (by decide) rfl (fun ls hl => ?_)
      refine lv_aload_n F.1.1 F.1.2.1 dX5_areActs_14 rfl (lv_at hl 1 rfl) ?_
      refine lv_iload F.1.1 F.1.2.1 dX5_areActs_15 (lv_at hl 0 rfl) ?_
      obtain ⟨r_4, μ_2, hc_3, hf⟩ := bnd_some hf
      refine rV1 (R := rmX5_areActs) (As := [.int y_1]) (rest := []) F hP hS hl (mX3_getCell l G F.2.2.2.2 j0 sj0 y_1 _ _ _ hc_3) gX5_areActs_X3_getCell sj0 hdX3_getCell rfl rfl rfl ⟨Nat.le_of_ble_eq_true rfl, Nat.le_of_ble_eq_true rfl⟩ (by decide) rfl rfl rfl (Nat.le_of_ble_eq_true rfl) ⟨Nat.le_of_ble_eq_true rfl, Nat.le_of_ble_eq_true rfl⟩ dX5_areActs_17 (fun H locs hP hS => ?_)
      refine lv_aload_n F.1.1 F.1.2.1 dX5_areActs_20 rfl (lv_at hl 1 rfl) ?_
      refine lv_iload F.1.1 F.1.2.1 dX5_areActs_21 (lv_at hl 0 rfl) ?_
      refine lv_iconst (v := (1 : Int32)) F.1.1 F.1.2.1 dX5_areActs_23 (by decide) ?_
      refine lv_iadd F.1.1 F.1.2.1 dX5_areActs_24 ?_
      obtain ⟨r_7, μ_5, hc_6, hf⟩ := bnd_some hf
      refine rV1 (R := rmX5_areActs) (As := [.int (y_1 + (1 : Int32))]) (rest := [.int r_4]) F hP hS hl (mX3_getCell l G F.2.2.2.2 j0 sj0 (y_1 + (1 : Int32)) _ _ _ hc_6) gX5_areActs_X3_getCell sj0 hdX3_getCell rfl rfl rfl ⟨Nat.le_of_ble_eq_true rfl, Nat.le_of_ble_eq_true rfl⟩ (by decide) rfl rfl rfl (Nat.le_of_ble_eq_true rfl) ⟨Nat.le_of_ble_eq_true rfl, Nat.le_of_ble_eq_true rfl⟩ dX5_areActs_25 (fun H locs hP hS => ?_)
      obtain ⟨r_10, μ_8, hc_9, hf⟩ := bnd_some hf
      refine rS1 (R := rmX5_areActs) (As := [.int r_4, .int r_7]) (rest := []) F hP hS hl (mX5_isAct l G F.2.2.2.2 r_4 r_7 _ _ _ hc_9) gX5_areActs_X5_isAct hdX5_isAct rfl rfl rfl ⟨Nat.le_of_ble_eq_true rfl, Nat.le_of_ble_eq_true rfl⟩ rfl rfl (Nat.le_of_ble_eq_true rfl) ⟨Nat.le_of_ble_eq_true rfl, Nat.le_of_ble_eq_true rfl⟩ dX5_areActs_28 (fun H locs hP hS => ?_)
      refine jz_ne (tgt := 36) F dX5_areActs_31 (by decide) hf (fun hf => ?_) (fun hf => ?_)
      · refine top_n hf (fun y_11 ey_11 hf => ?_)
        refine lv_iinc (v := y_11) (lv' := [(3, .int y_11), (4, .int y_1), (0, .ref (ga G j0)), (1, .int x1), (2, .int x2)]) F.1.1 F.1.2.1 dX5_areActs_36 hl (k := 4) rfl ey_11 (by decide) rfl (fun ls hl => ?_)
        refine lv_goto (tgt := 2) F.1.1 F.1.2.1 dX5_areActs_39 (by decide) ?_
        exact ih2 y_11 μ_8 H locs ls hP hS (lv_sub hl [2, 3, 4, 0] rfl) hf
      · refine lv_iconst (v := (0 : Int32)) F.1.1 F.1.2.1 dX5_areActs_34 (by decide) ?_
        exact retC F hP hS dX5_areActs_35 (by decide) hf
set_option maxHeartbeats 4000000 in
set_option maxRecDepth 100000 in
theorem mX5_areActs (l : Launch) (G : GT) (hG : GD G) (j0 : Nat) (sj0 : sh j0 = 3) (x1 : Int32) (x2 : Int32) (μ : Mem) (r : Int32) (μ' : Mem) (hf : fX5_areActs j0 x1 x2 μ = some (r, μ')) : Ct l yX5_areActs wsX5_areActs rmX5_areActs G [.ref (ga G j0), .int x1, .int x2] μ (some (.int r)) μ' := by
  refine Ct.of (cc := cX5_areActs) (maxL := 5) (ret := (some .boolean)) (own := RX5) hG (by decide) rfl rfl (Nat.le_of_ble_eq_true rfl) ?_
  intro p e s m args below meth c ls H locs F hl hP hS
  have hl : lv_has ls 5 [(0, .ref (ga G j0)), (1, .int x1), (2, .int x2)] := hl
  unfold fX5_areActs at hf
  refine lv_iconst (v := (0 : Int32)) F.1.1 F.1.2.1 dX5_areActs_0 (by decide) ?_
  refine lv_istore_n (lv' := [(3, .int (0 : Int32)), (0, .ref (ga G j0)), (1, .int x1), (2, .int x2)]) F.1.1 F.1.2.1 dX5_areActs_1 rfl hl (by decide) rfl (fun ls hl => ?_)
  exact lX5_areActs_L2 l G F j0 sj0 x1 x2 _ _ FU (0 : Int32) μ H locs ls hP hS (lv_sub hl [1, 2, 3, 0] rfl) hf
abbrev rmX4_addLike_n : Room := { frames := 0, cells := 0, slots := 0, locals := 0 }
theorem hdX4_addLike : yX4_addLike.cls = RX4 ∧ yX4_addLike.cls ≠ "java/lang/invoke/MethodHandle" ∧ yX4_addLike.cls ≠ "java/lang/invoke/VarHandle" ∧ (parseMethodDescriptor yX4_addLike.desc).map (fun d => d.parameters.length) = some 1 := by decide +kernel
set_option maxHeartbeats 4000000 in
set_option maxRecDepth 100000 in
theorem mX4_addLike_n (l : Launch) (G : GT) (hG : GD G) (w : Nat) (sw : sh w = 4) (μ : Mem) (r : Unit) (μ' : Mem) (hf : fX4_addLike_n w μ = some (r, μ')) : Ct l yX4_addLike wsX4_addLike rmX4_addLike_n G [.ref (ga G w), .null] μ none μ' := by
  refine Ct.of (cc := cX4_addLike) (maxL := 2) (ret := none) (own := RX4) hG (by decide) rfl rfl (Nat.le_of_ble_eq_true rfl) ?_
  intro p e s m args below meth c ls H locs F hl hP hS
  have hl : lv_has ls 2 [(0, .ref (ga G w)), (1, .null)] := hl
  unfold fX4_addLike_n at hf
  refine lv_aload_nN F.1.1 F.1.2.1 dX4_addLike_0 rfl (lv_at hl 1 rfl) ?_
  refine lv_ifnullN (tgt := 20) F.1.1 F.1.2.1 dX4_addLike_1 (by decide) ?_
  exact retV F hP hS dX4_addLike_20 hf
abbrev rmX4_addLike : Room := { frames := 2, cells := 0, slots := 0, locals := 46 }
theorem kX4_addLike_32 : Cond.fieldLink RX4 32 "PaperLayers$Layer" "kind" "I" ∈ wsX4_addLike := List.mem_cons_of_mem _ (List.mem_append_left _ (List.mem_append_left _ (List.mem_of_getElem? (i := 0) rfl)))
theorem kX4_addLike_43 : Cond.fieldLink RX4 43 "PaperLayers$Layer" "advice" "I" ∈ wsX4_addLike := List.mem_cons_of_mem _ (List.mem_append_left _ (List.mem_append_left _ (List.mem_of_getElem? (i := 2) rfl)))
theorem kX4_addLike_82 : Cond.fieldLink RX4 82 "PaperLayers$Layer" "hold" "I" ∈ wsX4_addLike := List.mem_cons_of_mem _ (List.mem_append_left _ (List.mem_append_left _ (List.mem_of_getElem? (i := 1) rfl)))
theorem inX4_addLike_0 : ∀ w ∈ wsX00, w ∈ wsX4_addLike := fun _ h => List.mem_cons_of_mem _ (List.mem_append_left _ (List.mem_append_right _ (h)))
set_option maxHeartbeats 4000000 in
set_option maxRecDepth 100000 in
theorem mX4_addLike (l : Launch) (G : GT) (hG : GD G) (w : Nat) (sw : sh w = 4) (j1 : Nat) (sj1 : sh j1 = 0) (μ : Mem) (r : Unit) (μ' : Mem) (hf : fX4_addLike w j1 μ = some (r, μ')) : Ct l yX4_addLike wsX4_addLike rmX4_addLike G [.ref (ga G w), .ref (ga G j1)] μ none μ' := by
  refine Ct.of (cc := cX4_addLike) (maxL := 2) (ret := none) (own := RX4) hG (by decide) rfl rfl (Nat.le_of_ble_eq_true rfl) ?_
  intro p e s m args below meth c ls H locs F hl hP hS
  have hl : lv_has ls 2 [(0, .ref (ga G w)), (1, .ref (ga G j1))] := hl
  unfold fX4_addLike at hf
  refine lv_aload_n F.1.1 F.1.2.1 dX4_addLike_0 rfl (lv_at hl 1 rfl) ?_
  refine lv_ifnull F.1.1 F.1.2.1 dX4_addLike_1 ?_
  refine lv_aload_n F.1.1 F.1.2.1 dX4_addLike_4 rfl (lv_at hl 0 rfl) ?_
  refine lv_aload_n F.1.1 F.1.2.1 dX4_addLike_5 rfl (lv_at hl 1 rfl) ?_
  refine gt_0_0 F hP j1 sj1 inX4_addLike_0 kX4_addLike_32 dX4_addLike_6 ?_
  refine lv_aload_n F.1.1 F.1.2.1 dX4_addLike_9 rfl (lv_at hl 1 rfl) ?_
  refine gt_0_1 F hP j1 sj1 inX4_addLike_0 kX4_addLike_82 dX4_addLike_10 ?_
  refine lv_aload_n F.1.1 F.1.2.1 dX4_addLike_13 rfl (lv_at hl 1 rfl) ?_
  refine gt_0_2 F hP j1 sj1 inX4_addLike_0 kX4_addLike_43 dX4_addLike_14 ?_
  obtain ⟨u_3, μ_1, hc_2, hf⟩ := bnd_some hf
  refine rVv (R := rmX4_addLike) (As := [.int (μ j1 0), .int (μ j1 1), .int (μ j1 2)]) (rest := []) F hP hS hl (mX4_addBelow l G F.2.2.2.2 w sw (μ j1 0) (μ j1 1) (μ j1 2) _ _ _ hc_2) gX4_addLike_X4_addBelow sw hdX4_addBelow rfl rfl rfl ⟨Nat.le_of_ble_eq_true rfl, Nat.le_of_ble_eq_true rfl⟩ (by decide) rfl rfl rfl (Nat.le_of_ble_eq_true rfl) ⟨Nat.le_of_ble_eq_true rfl, Nat.le_of_ble_eq_true rfl⟩ dX4_addLike_17 (fun H locs hP hS => ?_)
  exact retV F hP hS dX4_addLike_20 hf
abbrev rmX4_becomeLess : Room := { frames := 3, cells := 0, slots := 0, locals := 67 }
theorem hdX4_becomeLess : yX4_becomeLess.cls = RX4 ∧ yX4_becomeLess.cls ≠ "java/lang/invoke/MethodHandle" ∧ yX4_becomeLess.cls ≠ "java/lang/invoke/VarHandle" ∧ (parseMethodDescriptor yX4_becomeLess.desc).map (fun d => d.parameters.length) = some 2 := by decide +kernel
theorem kX4_becomeLess_18 : Cond.fieldLink RX4 18 "PaperLayers$Wall" "count" "I" ∈ wsX4_becomeLess := List.mem_cons_of_mem _ (List.mem_append_left _ (List.mem_append_left _ (List.mem_append_left _ (List.mem_of_getElem? (i := 2) rfl))))
theorem kX4_becomeLess_22 : Cond.fieldLink RX4 22 "PaperLayers$Wall" "warm" "I" ∈ wsX4_becomeLess := List.mem_cons_of_mem _ (List.mem_append_left _ (List.mem_append_left _ (List.mem_append_left _ (List.mem_of_getElem? (i := 0) rfl))))
theorem kX4_becomeLess_25 : Cond.fieldLink RX4 25 "PaperLayers$Wall" "damp" "I" ∈ wsX4_becomeLess := List.mem_cons_of_mem _ (List.mem_append_left _ (List.mem_append_left _ (List.mem_append_left _ (List.mem_of_getElem? (i := 1) rfl))))
theorem inX4_becomeLess_4 : ∀ w ∈ wsX40, w ∈ wsX4_becomeLess := fun _ h => List.mem_cons_of_mem _ (List.mem_append_left _ (List.mem_append_right _ (h)))
set_option maxHeartbeats 4000000 in
set_option maxRecDepth 100000 in
theorem lX4_becomeLess_L14 (l : Launch) (G : GT) {p : Program} {e : Env} {s : State} {m : MethodId} {args : Array Value} {below : List Frame} {meth : Method} {c : Code} (F : Fx p s m args meth c cX4_becomeLess 4 wsX4_becomeLess RX4 none G) (w : Nat) (sw : sh w = 4) (j1 : Nat) (sj1 : sh j1 = 4) (x2 : Int32) (r : Unit) (μ' : Mem) : ∀ (fuel : Nat), ∀ (x3 : Int32) (μ : Mem) (H : Heap) (locs : List Loc) (ls : Array Slot), Hh G μ H → va_S (gA G) s.heap H locs → lv_has ls 4 [(0, .ref (ga G w)), (1, .ref (ga G j1)), (2, .int x2), (3, .int x3)] → fX4_becomeLess_L14 w j1 x2 fuel x3 μ = some (r, μ') → W p l e rmX4_becomeLess s m args below meth c H locs 0 0 (MQ below (Qg G none μ') args s 0 0 (gA G)) (F0 m 14 ls []) := by
  intro fuel
  induction fuel with
  | zero =>
    intro x3 μ H locs ls hP hS hl hf
    exact absurd hf (by intro h; cases h)
  | succ fuel ih14 =>
    intro x3 μ H locs ls hP hS hl hf
    have hf : sX4_becomeLess_L14 (fX4_becomeLess_L14 w j1 x2 fuel) w j1 x2 x3 μ = some (r, μ') := hf
    unfold sX4_becomeLess_L14 at hf
    refine lv_iload_n F.1.1 F.1.2.1 dX4_becomeLess_14 rfl (lv_at hl 3 rfl) ?_
    refine lv_aload_n F.1.1 F.1.2.1 dX4_becomeLess_15 rfl (lv_at hl 1 rfl) ?_
    refine gt_4_1 F hP j1 sj1 inX4_becomeLess_4 kX4_becomeLess_18 dX4_becomeLess_16 ?_
    refine jc_ge (tgt := 45) F dX4_becomeLess_19 (by decide) hf (fun hf => ?_) (fun hf => ?_)
    · exact retV F hP hS dX4_becomeLess_45 hf
    · refine lv_iload_n F.1.1 F.1.2.1 dX4_becomeLess_22 rfl (lv_at hl 2 rfl) ?_
      refine lv_iconst (v := (1 : Int32)) F.1.1 F.1.2.1 dX4_becomeLess_23 (by decide) ?_
      refine lv_iload_n F.1.1 F.1.2.1 dX4_becomeLess_24 rfl (lv_at hl 3 rfl) ?_
      refine lv_ishl F.1.1 F.1.2.1 dX4_becomeLess_25 ?_
      refine lv_iand F.1.1 F.1.2.1 dX4_becomeLess_26 ?_
      refine jz_ne (tgt := 39) F dX4_becomeLess_27 (by decide) hf (fun hf => ?_) (fun hf => ?_)
      · refine top_n hf (fun y_4 ey_4 hf => ?_)
        refine lv_iinc (v := y_4) (lv' := [(3, .int y_4), (0, .ref (ga G w)), (1, .ref (ga G j1)), (2, .int x2)]) F.1.1 F.1.2.1 dX4_becomeLess_39 hl (k := 3) rfl ey_4 (by decide) rfl (fun ls hl => ?_)
        refine lv_goto (tgt := 14) F.1.1 F.1.2.1 dX4_becomeLess_42 (by decide) ?_
        exact ih14 y_4 μ H locs ls hP hS (lv_sub hl [1, 2, 3, 0] rfl) hf
      · refine lv_aload_n F.1.1 F.1.2.1 dX4_becomeLess_30 rfl (lv_at hl 0 rfl) ?_
        refine lv_aload_n F.1.1 F.1.2.1 dX4_becomeLess_31 rfl (lv_at hl 1 rfl) ?_
        refine lv_iload_n F.1.1 F.1.2.1 dX4_becomeLess_32 rfl (lv_at hl 3 rfl) ?_
        obtain ⟨r_7, μ_5, hc_6, hf⟩ := bnd_some hf
        refine rV1 (R := rmX4_becomeLess) (As := [.int x3]) (rest := [.ref (ga G w)]) F hP hS hl (mX4_layerAt l G F.2.2.2.2 j1 sj1 x3 _ _ _ hc_6) gX4_becomeLess_X4_layerAt sj1 hdX4_layerAt rfl rfl rfl ⟨Nat.le_of_ble_eq_true rfl, Nat.le_of_ble_eq_true rfl⟩ (by decide) rfl rfl rfl (Nat.le_of_ble_eq_true rfl) ⟨Nat.le_of_ble_eq_true rfl, Nat.le_of_ble_eq_true rfl⟩ dX4_becomeLess_33 (fun H locs hP hS => ?_)
        refine top_o hf (fun hf => ?_) (fun i_8 ho_9 hf => ?_)
        · obtain ⟨u_13, μ_11, hc_12, hf⟩ := bnd_some hf
          refine rVv (R := rmX4_becomeLess) (As := [.null]) (rest := []) F hP hS hl (mX4_addLike_n l G F.2.2.2.2 w sw _ _ _ hc_12) gX4_becomeLess_X4_addLike sw hdX4_addLike rfl rfl rfl ⟨Nat.le_of_ble_eq_true rfl, Nat.le_of_ble_eq_true rfl⟩ (by decide) rfl rfl rfl (Nat.le_of_ble_eq_true rfl) ⟨Nat.le_of_ble_eq_true rfl, Nat.le_of_ble_eq_true rfl⟩ dX4_becomeLess_36 (fun H locs hP hS => ?_)
          refine top_n hf (fun y_14 ey_14 hf => ?_)
          refine lv_iinc (v := y_14) (lv' := [(3, .int y_14), (0, .ref (ga G w)), (1, .ref (ga G j1)), (2, .int x2)]) F.1.1 F.1.2.1 dX4_becomeLess_39 hl (k := 3) rfl ey_14 (by decide) rfl (fun ls hl => ?_)
          refine lv_goto (tgt := 14) F.1.1 F.1.2.1 dX4_becomeLess_42 (by decide) ?_
          exact ih14 y_14 μ_11 H locs ls hP hS (lv_sub hl [1, 2, 3, 0] rfl) hf
        · have s_10 := shX4_layerAt_r sj1 (ho_9 ▸ hc_6)
          obtain ⟨u_17, μ_15, hc_16, hf⟩ := bnd_some hf
          refine rVv (R := rmX4_becomeLess) (As := [.ref (ga G i_8)]) (rest := []) F hP hS hl (mX4_addLike l G F.2.2.2.2 w sw i_8 s_10 _ _ _ hc_16) gX4_becomeLess_X4_addLike sw hdX4_addLike rfl rfl rfl ⟨Nat.le_of_ble_eq_true rfl, Nat.le_of_ble_eq_true rfl⟩ (by decide) rfl rfl rfl (Nat.le_of_ble_eq_true rfl) ⟨Nat.le_of_ble_eq_true rfl, Nat.le_of_ble_eq_true rfl⟩ dX4_becomeLess_36 (fun H locs hP hS => ?_)
          refine top_n hf (fun y_18 ey_18 hf => ?_)
          refine lv_iinc (v := y_18) (lv' := [(3, .int y_18), (0, .ref (ga G w)), (1, .ref (ga G j1)), (2, .int x2)]) F.1.1 F.1.2.1 dX4_becomeLess_39 hl (k := 3) rfl ey_18 (by decide) rfl (fun ls hl => ?_)
          refine lv_goto (tgt := 14) F.1.1 F.1.2.1 dX4_becomeLess_42 (by decide) ?_
          exact ih14 y_18 μ_15 H locs ls hP hS (lv_sub hl [1, 2, 3, 0] rfl) hf
set_option maxHeartbeats 4000000 in
set_option maxRecDepth 100000 in
theorem mX4_becomeLess (l : Launch) (G : GT) (hG : GD G) (w : Nat) (sw : sh w = 4) (j1 : Nat) (sj1 : sh j1 = 4) (x2 : Int32) (μ : Mem) (r : Unit) (μ' : Mem) (hf : fX4_becomeLess w j1 x2 μ = some (r, μ')) : Ct l yX4_becomeLess wsX4_becomeLess rmX4_becomeLess G [.ref (ga G w), .ref (ga G j1), .int x2] μ none μ' := by
  refine Ct.of (cc := cX4_becomeLess) (maxL := 4) (ret := none) (own := RX4) hG (by decide) rfl rfl (Nat.le_of_ble_eq_true rfl) ?_
  intro p e s m args below meth c ls H locs F hl hP hS
  have hl : lv_has ls 4 [(0, .ref (ga G w)), (1, .ref (ga G j1)), (2, .int x2)] := hl
  unfold fX4_becomeLess at hf
  refine lv_aload_n F.1.1 F.1.2.1 dX4_becomeLess_0 rfl (lv_at hl 0 rfl) ?_
  refine lv_aload_n F.1.1 F.1.2.1 dX4_becomeLess_1 rfl (lv_at hl 1 rfl) ?_
  refine gt_4_2 F hP j1 sj1 inX4_becomeLess_4 kX4_becomeLess_22 dX4_becomeLess_2 ?_
  refine lv_aload_n F.1.1 F.1.2.1 dX4_becomeLess_5 rfl (lv_at hl 1 rfl) ?_
  refine gt_4_3 F hP j1 sj1 inX4_becomeLess_4 kX4_becomeLess_25 dX4_becomeLess_6 ?_
  obtain ⟨u_3, μ_1, hc_2, hf⟩ := bnd_some hf
  refine rVv (R := rmX4_becomeLess) (As := [.int (μ j1 2), .int (μ j1 3)]) (rest := []) F hP hS hl (mX4_begin l G F.2.2.2.2 w sw (μ j1 2) (μ j1 3) _ _ _ hc_2) gX4_becomeLess_X4_begin sw hdX4_begin rfl rfl rfl ⟨Nat.le_of_ble_eq_true rfl, Nat.le_of_ble_eq_true rfl⟩ (by decide) rfl rfl rfl (Nat.le_of_ble_eq_true rfl) ⟨Nat.le_of_ble_eq_true rfl, Nat.le_of_ble_eq_true rfl⟩ dX4_becomeLess_9 (fun H locs hP hS => ?_)
  refine lv_iconst (v := (0 : Int32)) F.1.1 F.1.2.1 dX4_becomeLess_12 (by decide) ?_
  refine lv_istore_n (lv' := [(3, .int (0 : Int32)), (0, .ref (ga G w)), (1, .ref (ga G j1)), (2, .int x2)]) F.1.1 F.1.2.1 dX4_becomeLess_13 rfl hl (by decide) rfl (fun ls hl => ?_)
  exact lX4_becomeLess_L14 l G F w sw j1 sj1 x2 _ _ FU (0 : Int32) μ_1 H locs ls hP hS (lv_sub hl [1, 2, 3, 0] rfl) hf
abbrev rmX4_become : Room := { frames := 4, cells := 0, slots := 0, locals := 90 }
theorem hdX4_become : yX4_become.cls = RX4 ∧ yX4_become.cls ≠ "java/lang/invoke/MethodHandle" ∧ yX4_become.cls ≠ "java/lang/invoke/VarHandle" ∧ (parseMethodDescriptor yX4_become.desc).map (fun d => d.parameters.length) = some 1 := by decide +kernel
set_option maxHeartbeats 4000000 in
set_option maxRecDepth 100000 in
theorem mX4_become (l : Launch) (G : GT) (hG : GD G) (w : Nat) (sw : sh w = 4) (j1 : Nat) (sj1 : sh j1 = 4) (μ : Mem) (r : Unit) (μ' : Mem) (hf : fX4_become w j1 μ = some (r, μ')) : Ct l yX4_become wsX4_become rmX4_become G [.ref (ga G w), .ref (ga G j1)] μ none μ' := by
  refine Ct.of (cc := cX4_become) (maxL := 2) (ret := none) (own := RX4) hG (by decide) rfl rfl (Nat.le_of_ble_eq_true rfl) ?_
  intro p e s m args below meth c ls H locs F hl hP hS
  have hl : lv_has ls 2 [(0, .ref (ga G w)), (1, .ref (ga G j1))] := hl
  unfold fX4_become at hf
  refine lv_aload_n F.1.1 F.1.2.1 dX4_become_0 rfl (lv_at hl 0 rfl) ?_
  refine lv_aload_n F.1.1 F.1.2.1 dX4_become_1 rfl (lv_at hl 1 rfl) ?_
  refine lv_iconst (v := (0 : Int32)) F.1.1 F.1.2.1 dX4_become_2 (by decide) ?_
  obtain ⟨u_3, μ_1, hc_2, hf⟩ := bnd_some hf
  refine rVv (R := rmX4_become) (As := [.ref (ga G j1), .int (0 : Int32)]) (rest := []) F hP hS hl (mX4_becomeLess l G F.2.2.2.2 w sw j1 sj1 (0 : Int32) _ _ _ hc_2) gX4_become_X4_becomeLess sw hdX4_becomeLess rfl rfl rfl ⟨Nat.le_of_ble_eq_true rfl, Nat.le_of_ble_eq_true rfl⟩ (by decide) rfl rfl rfl (Nat.le_of_ble_eq_true rfl) ⟨Nat.le_of_ble_eq_true rfl, Nat.le_of_ble_eq_true rfl⟩ dX4_become_3 (fun H locs hP hS => ?_)
  exact retV F hP hS dX4_become_6 hf
abbrev rmX4_doAct : Room := { frames := 3, cells := 0, slots := 0, locals := 68 }
theorem hdX4_doAct : yX4_doAct.cls = RX4 ∧ yX4_doAct.cls ≠ "java/lang/invoke/MethodHandle" ∧ yX4_doAct.cls ≠ "java/lang/invoke/VarHandle" ∧ (parseMethodDescriptor yX4_doAct.desc).map (fun d => d.parameters.length) = some 2 := by decide +kernel
theorem kX4_doAct_22 : Cond.fieldLink RX4 22 "PaperLayers$Wall" "warm" "I" ∈ wsX4_doAct := List.mem_cons_of_mem _ (List.mem_append_left _ (List.mem_append_left _ (List.mem_append_left _ (List.mem_of_getElem? (i := 0) rfl))))
theorem kX4_doAct_25 : Cond.fieldLink RX4 25 "PaperLayers$Wall" "damp" "I" ∈ wsX4_doAct := List.mem_cons_of_mem _ (List.mem_append_left _ (List.mem_append_left _ (List.mem_append_left _ (List.mem_of_getElem? (i := 1) rfl))))
theorem inX4_doAct_4 : ∀ w ∈ wsX40, w ∈ wsX4_doAct := fun _ h => List.mem_cons_of_mem _ (List.mem_append_left _ (List.mem_append_right _ (h)))
set_option maxHeartbeats 4000000 in
set_option maxRecDepth 100000 in
theorem mX4_doAct (l : Launch) (G : GT) (hG : GD G) (w : Nat) (sw : sh w = 4) (x1 : Int32) (x2 : Int32) (μ : Mem) (r : Int32) (μ' : Mem) (hf : fX4_doAct w x1 x2 μ = some (r, μ')) : Ct l yX4_doAct wsX4_doAct rmX4_doAct G [.ref (ga G w), .int x1, .int x2] μ (some (.int r)) μ' := by
  refine Ct.of (cc := cX4_doAct) (maxL := 3) (ret := (some .boolean)) (own := RX4) hG (by decide) rfl rfl (Nat.le_of_ble_eq_true rfl) ?_
  intro p e s m args below meth c ls H locs F hl hP hS
  have hl : lv_has ls 3 [(0, .ref (ga G w)), (1, .int x1), (2, .int x2)] := hl
  unfold fX4_doAct at hf
  refine lv_iload_n F.1.1 F.1.2.1 dX4_doAct_0 rfl (lv_at hl 1 rfl) ?_
  refine split_sw (k := (0 : Int32)) hf (fun hk0 hf => ?_) (fun hn0 hf => ?_)
  · refine lv_tableIn (tgt := 28) (off := 27) F.1.1 F.1.2.1 dX4_doAct_1 (by rw [hk0]; decide) (by rw [hk0]; decide) (by rw [hk0]; rfl) (by decide) ?_
    refine lv_aload_n F.1.1 F.1.2.1 dX4_doAct_28 rfl (lv_at hl 0 rfl) ?_
    refine lv_iload_n F.1.1 F.1.2.1 dX4_doAct_29 rfl (lv_at hl 2 rfl) ?_
    refine pt_4_2 F hP hS w sw inX4_doAct_4 kX4_doAct_22 dX4_doAct_30 hf (fun μ_1 H locs hP hS hf => ?_)
    refine lv_iconst (v := (1 : Int32)) F.1.1 F.1.2.1 dX4_doAct_33 (by decide) ?_
    exact retC F hP hS dX4_doAct_34 (by decide) hf
  refine split_sw (k := (1 : Int32)) hf (fun hk1 hf => ?_) (fun hn1 hf => ?_)
  · refine lv_tableIn (tgt := 35) (off := 34) F.1.1 F.1.2.1 dX4_doAct_1 (by rw [hk1]; decide) (by rw [hk1]; decide) (by rw [hk1]; rfl) (by decide) ?_
    refine lv_aload_n F.1.1 F.1.2.1 dX4_doAct_35 rfl (lv_at hl 0 rfl) ?_
    refine lv_iload_n F.1.1 F.1.2.1 dX4_doAct_36 rfl (lv_at hl 2 rfl) ?_
    refine pt_4_3 F hP hS w sw inX4_doAct_4 kX4_doAct_25 dX4_doAct_37 hf (fun μ_2 H locs hP hS hf => ?_)
    refine lv_iconst (v := (1 : Int32)) F.1.1 F.1.2.1 dX4_doAct_40 (by decide) ?_
    exact retC F hP hS dX4_doAct_41 (by decide) hf
  refine split_sw (k := (2 : Int32)) hf (fun hk2 hf => ?_) (fun hn2 hf => ?_)
  · refine lv_tableIn (tgt := 42) (off := 41) F.1.1 F.1.2.1 dX4_doAct_1 (by rw [hk2]; decide) (by rw [hk2]; decide) (by rw [hk2]; rfl) (by decide) ?_
    refine lv_aload_n F.1.1 F.1.2.1 dX4_doAct_42 rfl (lv_at hl 0 rfl) ?_
    obtain ⟨r_5, μ_3, hc_4, hf⟩ := bnd_some hf
    refine rV1 (R := rmX4_doAct) (As := []) (rest := []) F hP hS hl (mX4_peelTop l G F.2.2.2.2 w sw _ _ _ hc_4) gX4_doAct_X4_peelTop sw hdX4_peelTop rfl rfl rfl ⟨Nat.le_of_ble_eq_true rfl, Nat.le_of_ble_eq_true rfl⟩ (by decide) rfl rfl rfl (Nat.le_of_ble_eq_true rfl) ⟨Nat.le_of_ble_eq_true rfl, Nat.le_of_ble_eq_true rfl⟩ dX4_doAct_43 (fun H locs hP hS => ?_)
    exact retZ F hP hS dX4_doAct_46 hf
  refine lv_tableOut (tgt := 47) F.1.1 F.1.2.1 dX4_doAct_1 (by have q0 := lv_neT hn0 (a := 0) (by decide); have q1 := lv_neT hn1 (a := 1) (by decide); have q2 := lv_neT hn2 (a := 2) (by decide); omega) (by decide) ?_
  refine lv_aload_n F.1.1 F.1.2.1 dX4_doAct_47 rfl (lv_at hl 0 rfl) ?_
  refine lv_iconst (v := (0 : Int32)) F.1.1 F.1.2.1 dX4_doAct_48 (by decide) ?_
  refine lv_iload_n F.1.1 F.1.2.1 dX4_doAct_49 rfl (lv_at hl 2 rfl) ?_
  refine lv_iload_n F.1.1 F.1.2.1 dX4_doAct_50 rfl (lv_at hl 2 rfl) ?_
  obtain ⟨r_8, μ_6, hc_7, hf⟩ := bnd_some hf
  refine rV1 (R := rmX4_doAct) (As := [.int (0 : Int32), .int x2, .int x2]) (rest := []) F hP hS hl (mX4_layOnTop l G F.2.2.2.2 w sw (0 : Int32) x2 x2 _ _ _ hc_7) gX4_doAct_X4_layOnTop sw hdX4_layOnTop rfl rfl rfl ⟨Nat.le_of_ble_eq_true rfl, Nat.le_of_ble_eq_true rfl⟩ (by decide) rfl rfl rfl (Nat.le_of_ble_eq_true rfl) ⟨Nat.le_of_ble_eq_true rfl, Nat.le_of_ble_eq_true rfl⟩ dX4_doAct_51 (fun H locs hP hS => ?_)
  exact retZ F hP hS dX4_doAct_54 hf
abbrev rmX5_afterDays : Room := { frames := 5, cells := 0, slots := 0, locals := 111 }
theorem hdX5_afterDays : yX5_afterDays.cls = RX5 ∧ yX5_afterDays.cls ≠ "java/lang/invoke/MethodHandle" ∧ yX5_afterDays.cls ≠ "java/lang/invoke/VarHandle" ∧ (parseMethodDescriptor yX5_afterDays.desc).map (fun d => d.parameters.length) = some 4 := by decide +kernel
theorem kX5_afterDays_12 : Cond.fieldLink RX5 12 "PaperLayers" "now" "LPaperLayers$Wall;" ∈ wsX5_afterDays := List.mem_cons_of_mem _ (List.mem_append_left _ (List.mem_append_left _ (List.mem_append_left _ (List.mem_append_left _ (List.mem_append_left _ (List.mem_of_getElem? (i := 1) rfl))))))
theorem kX5_afterDays_18 : Cond.fieldLink RX5 18 "PaperLayers" "trial" "LPaperLayers$Wall;" ∈ wsX5_afterDays := List.mem_cons_of_mem _ (List.mem_append_left _ (List.mem_append_left _ (List.mem_append_left _ (List.mem_append_left _ (List.mem_append_left _ (List.mem_of_getElem? (i := 0) rfl))))))
theorem kX5_afterDays_76 : Cond.fieldLink RX5 76 "PaperLayers$Wall" "count" "I" ∈ wsX5_afterDays := List.mem_cons_of_mem _ (List.mem_append_left _ (List.mem_append_left _ (List.mem_append_left _ (List.mem_append_left _ (List.mem_append_left _ (List.mem_of_getElem? (i := 2) rfl))))))
theorem inX5_afterDays_4 : ∀ w ∈ wsX40, w ∈ wsX5_afterDays := fun _ h => List.mem_cons_of_mem _ (List.mem_append_left _ (List.mem_append_left _ (List.mem_append_right _ (h))))
theorem inX5_afterDays_5 : ∀ w ∈ wsX50, w ∈ wsX5_afterDays := fun _ h => List.mem_cons_of_mem _ (List.mem_append_left _ (List.mem_append_left _ (List.mem_append_left _ (List.mem_append_right _ (h)))))
set_option maxHeartbeats 4000000 in
set_option maxRecDepth 100000 in
theorem lX5_afterDays_L17 (l : Launch) (G : GT) {p : Program} {e : Env} {s : State} {m : MethodId} {args : Array Value} {below : List Frame} {meth : Method} {c : Code} (F : Fx p s m args meth c cX5_afterDays 8 wsX5_afterDays RX5 (some .int) G) (j1 : Nat) (sj1 : sh j1 = 3) (x2 : Int32) (x3 : Int32) (x4 : Int32) (r : Int32) (μ' : Mem) : ∀ (fuel : Nat), ∀ (x5 : Int32) (x6 : Int32) (μ : Mem) (H : Heap) (locs : List Loc) (ls : Array Slot), Hh G μ H → va_S (gA G) s.heap H locs → lv_has ls 8 [(0, .ref (ga G 0)), (1, .ref (ga G j1)), (2, .int x2), (3, .int x3), (4, .int x4), (5, .int x5), (6, .int x6)] → fX5_afterDays_L17 j1 x2 x3 x4 fuel x5 x6 μ = some (r, μ') → W p l e rmX5_afterDays s m args below meth c H locs 0 0 (MQ below (Qg G (some (.int r)) μ') args s 0 0 (gA G)) (F0 m 17 ls []) := by
  intro fuel
  induction fuel with
  | zero =>
    intro x5 x6 μ H locs ls hP hS hl hf
    exact absurd hf (by intro h; cases h)
  | succ fuel ih17 =>
    intro x5 x6 μ H locs ls hP hS hl hf
    have hf : sX5_afterDays_L17 (fX5_afterDays_L17 j1 x2 x3 x4 fuel) j1 x2 x3 x4 x5 x6 μ = some (r, μ') := hf
    unfold sX5_afterDays_L17 at hf
    refine lv_iload F.1.1 F.1.2.1 dX5_afterDays_17 (lv_at hl 6 rfl) ?_
    refine lv_iload_n F.1.1 F.1.2.1 dX5_afterDays_19 rfl (lv_at hl 3 rfl) ?_
    refine jc_ge (tgt := 98) F dX5_afterDays_20 (by decide) hf (fun hf => ?_) (fun hf => ?_)
    · refine lv_iload F.1.1 F.1.2.1 dX5_afterDays_98 (lv_at hl 4 rfl) ?_
      refine split_sw (k := (0 : Int32)) hf (fun hk0 hf => ?_) (fun hn0 hf => ?_)
      · refine lv_tableIn (tgt := 136) (off := 36) F.1.1 F.1.2.1 dX5_afterDays_100 (by rw [hk0]; decide) (by rw [hk0]; decide) (by rw [hk0]; rfl) (by decide) ?_
        refine lv_aload_n F.1.1 F.1.2.1 dX5_afterDays_136 rfl (lv_at hl 0 rfl) ?_
        refine gt_5_1 F hP 0 rfl inX5_afterDays_5 kX5_afterDays_18 dX5_afterDays_137 ?_
        refine gt_4_1 F hP 9 rfl inX5_afterDays_4 kX5_afterDays_76 dX5_afterDays_140 ?_
        exact retI F hP hS dX5_afterDays_143 hf
      refine split_sw (k := (1 : Int32)) hf (fun hk1 hf => ?_) (fun hn1 hf => ?_)
      · refine lv_tableIn (tgt := 180) (off := 80) F.1.1 F.1.2.1 dX5_afterDays_100 (by rw [hk1]; decide) (by rw [hk1]; decide) (by rw [hk1]; rfl) (by decide) ?_
        refine lv_bipush (v := (-9 : Int32)) F.1.1 F.1.2.1 dX5_afterDays_180 (by decide) ?_
        exact retI F hP hS dX5_afterDays_182 hf
      refine split_sw (k := (2 : Int32)) hf (fun hk2 hf => ?_) (fun hn2 hf => ?_)
      · refine lv_tableIn (tgt := 144) (off := 44) F.1.1 F.1.2.1 dX5_afterDays_100 (by rw [hk2]; decide) (by rw [hk2]; decide) (by rw [hk2]; rfl) (by decide) ?_
        refine lv_aload_n F.1.1 F.1.2.1 dX5_afterDays_144 rfl (lv_at hl 0 rfl) ?_
        refine gt_5_1 F hP 0 rfl inX5_afterDays_5 kX5_afterDays_18 dX5_afterDays_145 ?_
        refine lv_aload_n F.1.1 F.1.2.1 dX5_afterDays_148 rfl (lv_at hl 0 rfl) ?_
        refine gt_5_1 F hP 0 rfl inX5_afterDays_5 kX5_afterDays_18 dX5_afterDays_149 ?_
        obtain ⟨r_6, μ_4, hc_5, hf⟩ := bnd_some hf
        refine rV1 (R := rmX5_afterDays) (As := []) (rest := [.ref (ga G 9)]) F hP hS hl (mX4_warmth l G F.2.2.2.2 9 rfl _ _ _ hc_5) gX5_afterDays_X4_warmth rfl hdX4_warmth rfl rfl rfl ⟨Nat.le_of_ble_eq_true rfl, Nat.le_of_ble_eq_true rfl⟩ (by decide) rfl rfl rfl (Nat.le_of_ble_eq_true rfl) ⟨Nat.le_of_ble_eq_true rfl, Nat.le_of_ble_eq_true rfl⟩ dX5_afterDays_152 (fun H locs hP hS => ?_)
        obtain ⟨r_9, μ_7, hc_8, hf⟩ := bnd_some hf
        refine rV1 (R := rmX5_afterDays) (As := [.int r_6]) (rest := []) F hP hS hl (mX4_counselBy l G F.2.2.2.2 9 rfl r_6 _ _ _ hc_8) gX5_afterDays_X4_counselBy rfl hdX4_counselBy rfl rfl rfl ⟨Nat.le_of_ble_eq_true rfl, Nat.le_of_ble_eq_true rfl⟩ (by decide) rfl rfl rfl (Nat.le_of_ble_eq_true rfl) ⟨Nat.le_of_ble_eq_true rfl, Nat.le_of_ble_eq_true rfl⟩ dX5_afterDays_155 (fun H locs hP hS => ?_)
        exact retI F hP hS dX5_afterDays_158 hf
      refine split_sw (k := (3 : Int32)) hf (fun hk3 hf => ?_) (fun hn3 hf => ?_)
      · refine lv_tableIn (tgt := 159) (off := 59) F.1.1 F.1.2.1 dX5_afterDays_100 (by rw [hk3]; decide) (by rw [hk3]; decide) (by rw [hk3]; rfl) (by decide) ?_
        refine lv_aload_n F.1.1 F.1.2.1 dX5_afterDays_159 rfl (lv_at hl 0 rfl) ?_
        refine gt_5_1 F hP 0 rfl inX5_afterDays_5 kX5_afterDays_18 dX5_afterDays_160 ?_
        refine lv_aload_n F.1.1 F.1.2.1 dX5_afterDays_163 rfl (lv_at hl 0 rfl) ?_
        refine gt_5_1 F hP 0 rfl inX5_afterDays_5 kX5_afterDays_18 dX5_afterDays_164 ?_
        obtain ⟨r_12, μ_10, hc_11, hf⟩ := bnd_some hf
        refine rV1 (R := rmX5_afterDays) (As := []) (rest := [.ref (ga G 9)]) F hP hS hl (mX4_warmth l G F.2.2.2.2 9 rfl _ _ _ hc_11) gX5_afterDays_X4_warmth rfl hdX4_warmth rfl rfl rfl ⟨Nat.le_of_ble_eq_true rfl, Nat.le_of_ble_eq_true rfl⟩ (by decide) rfl rfl rfl (Nat.le_of_ble_eq_true rfl) ⟨Nat.le_of_ble_eq_true rfl, Nat.le_of_ble_eq_true rfl⟩ dX5_afterDays_167 (fun H locs hP hS => ?_)
        obtain ⟨r_15, μ_13, hc_14, hf⟩ := bnd_some hf
        refine rV1 (R := rmX5_afterDays) (As := [.int r_12]) (rest := []) F hP hS hl (mX4_heardBy l G F.2.2.2.2 9 rfl r_12 _ _ _ hc_14) gX5_afterDays_X4_heardBy rfl hdX4_heardBy rfl rfl rfl ⟨Nat.le_of_ble_eq_true rfl, Nat.le_of_ble_eq_true rfl⟩ (by decide) rfl rfl rfl (Nat.le_of_ble_eq_true rfl) ⟨Nat.le_of_ble_eq_true rfl, Nat.le_of_ble_eq_true rfl⟩ dX5_afterDays_170 (fun H locs hP hS => ?_)
        obtain ⟨r_18, μ_16, hc_17, hf⟩ := bnd_some hf
        refine rS1 (R := rmX5_afterDays) (As := [.int r_15]) (rest := []) F hP hS hl (mX5_setOfFirst l G F.2.2.2.2 r_15 _ _ _ hc_17) gX5_afterDays_X5_setOfFirst hdX5_setOfFirst rfl rfl rfl ⟨Nat.le_of_ble_eq_true rfl, Nat.le_of_ble_eq_true rfl⟩ rfl rfl (Nat.le_of_ble_eq_true rfl) ⟨Nat.le_of_ble_eq_true rfl, Nat.le_of_ble_eq_true rfl⟩ dX5_afterDays_173 (fun H locs hP hS => ?_)
        exact retI F hP hS dX5_afterDays_176 hf
      refine split_sw (k := (4 : Int32)) hf (fun hk4 hf => ?_) (fun hn4 hf => ?_)
      · refine lv_tableIn (tgt := 177) (off := 77) F.1.1 F.1.2.1 dX5_afterDays_100 (by rw [hk4]; decide) (by rw [hk4]; decide) (by rw [hk4]; rfl) (by decide) ?_
        refine lv_iload F.1.1 F.1.2.1 dX5_afterDays_177 (lv_at hl 5 rfl) ?_
        exact retI F hP hS dX5_afterDays_179 hf
      refine lv_tableOut (tgt := 180) F.1.1 F.1.2.1 dX5_afterDays_100 (by have q0 := lv_neT hn0 (a := 0) (by decide); have q1 := lv_neT hn1 (a := 1) (by decide); have q2 := lv_neT hn2 (a := 2) (by decide); have q3 := lv_neT hn3 (a := 3) (by decide); have q4 := lv_neT hn4 (a := 4) (by decide); omega) (by decide) ?_
      refine lv_bipush (v := (-9 : Int32)) F.1.1 F.1.2.1 dX5_afterDays_180 (by decide) ?_
      exact retI F hP hS dX5_afterDays_182 hf
    · refine lv_iload_n F.1.1 F.1.2.1 dX5_afterDays_23 rfl (lv_at hl 2 rfl) ?_
      refine lv_iconst (v := (2 : Int32)) F.1.1 F.1.2.1 dX5_afterDays_24 (by decide) ?_
      refine lv_iload F.1.1 F.1.2.1 dX5_afterDays_25 (lv_at hl 6 rfl) ?_
      refine lv_imul F.1.1 F.1.2.1 dX5_afterDays_27 ?_
      refine lv_iadd F.1.1 F.1.2.1 dX5_afterDays_28 ?_
      refine top_i hf (fun y_19 hf => ?_)
      refine lv_istore (lv' := [(7, .int y_19), (0, .ref (ga G 0)), (1, .ref (ga G j1)), (2, .int x2), (3, .int x3), (4, .int x4), (5, .int x5), (6, .int x6)]) F.1.1 F.1.2.1 dX5_afterDays_29 hl (by decide) rfl (fun ls hl => ?_)
      refine lv_aload_n F.1.1 F.1.2.1 dX5_afterDays_31 rfl (lv_at hl 1 rfl) ?_
      refine gt_5_1 F hP 0 rfl inX5_afterDays_5 kX5_afterDays_18 dX5_afterDays_32 ?_
      refine lv_aload_n F.1.1 F.1.2.1 dX5_afterDays_35 rfl (lv_at hl 2 rfl) ?_
      refine lv_iload F.1.1 F.1.2.1 dX5_afterDays_36 (lv_at hl 0 rfl) ?_
      obtain ⟨r_22, μ_20, hc_21, hf⟩ := bnd_some hf
      refine rV1 (R := rmX5_afterDays) (As := [.int y_19]) (rest := [.ref (ga G 9)]) F hP hS hl (mX3_getCell l G F.2.2.2.2 j1 sj1 y_19 _ _ _ hc_21) gX5_afterDays_X3_getCell sj1 hdX3_getCell rfl rfl rfl ⟨Nat.le_of_ble_eq_true rfl, Nat.le_of_ble_eq_true rfl⟩ (by decide) rfl rfl rfl (Nat.le_of_ble_eq_true rfl) ⟨Nat.le_of_ble_eq_true rfl, Nat.le_of_ble_eq_true rfl⟩ dX5_afterDays_38 (fun H locs hP hS => ?_)
      refine lv_aload_n F.1.1 F.1.2.1 dX5_afterDays_41 rfl (lv_at hl 2 rfl) ?_
      refine lv_iload F.1.1 F.1.2.1 dX5_afterDays_42 (lv_at hl 0 rfl) ?_
      refine lv_iconst (v := (1 : Int32)) F.1.1 F.1.2.1 dX5_afterDays_44 (by decide) ?_
      refine lv_iadd F.1.1 F.1.2.1 dX5_afterDays_45 ?_
      obtain ⟨r_25, μ_23, hc_24, hf⟩ := bnd_some hf
      refine rV1 (R := rmX5_afterDays) (As := [.int (y_19 + (1 : Int32))]) (rest := [.int r_22, .ref (ga G 9)]) F hP hS hl (mX3_getCell l G F.2.2.2.2 j1 sj1 (y_19 + (1 : Int32)) _ _ _ hc_24) gX5_afterDays_X3_getCell sj1 hdX3_getCell rfl rfl rfl ⟨Nat.le_of_ble_eq_true rfl, Nat.le_of_ble_eq_true rfl⟩ (by decide) rfl rfl rfl (Nat.le_of_ble_eq_true rfl) ⟨Nat.le_of_ble_eq_true rfl, Nat.le_of_ble_eq_true rfl⟩ dX5_afterDays_46 (fun H locs hP hS => ?_)
      obtain ⟨r_28, μ_26, hc_27, hf⟩ := bnd_some hf
      refine rV1 (R := rmX5_afterDays) (As := [.int r_22, .int r_25]) (rest := []) F hP hS hl (mX4_doAct l G F.2.2.2.2 9 rfl r_22 r_25 _ _ _ hc_27) gX5_afterDays_X4_doAct rfl hdX4_doAct rfl rfl rfl ⟨Nat.le_of_ble_eq_true rfl, Nat.le_of_ble_eq_true rfl⟩ (by decide) rfl rfl rfl (Nat.le_of_ble_eq_true rfl) ⟨Nat.le_of_ble_eq_true rfl, Nat.le_of_ble_eq_true rfl⟩ dX5_afterDays_49 (fun H locs hP hS => ?_)
      refine jz_ne (tgt := 72) F dX5_afterDays_52 (by decide) hf (fun hf => ?_) (fun hf => ?_)
      · refine lv_aload_n F.1.1 F.1.2.1 dX5_afterDays_72 rfl (lv_at hl 1 rfl) ?_
        refine gt_5_1 F hP 0 rfl inX5_afterDays_5 kX5_afterDays_18 dX5_afterDays_73 ?_
        refine lv_aload_n F.1.1 F.1.2.1 dX5_afterDays_76 rfl (lv_at hl 1 rfl) ?_
        refine gt_5_1 F hP 0 rfl inX5_afterDays_5 kX5_afterDays_18 dX5_afterDays_77 ?_
        obtain ⟨r_31, μ_29, hc_30, hf⟩ := bnd_some hf
        refine rV1 (R := rmX5_afterDays) (As := []) (rest := [.ref (ga G 9)]) F hP hS hl (mX4_warmth l G F.2.2.2.2 9 rfl _ _ _ hc_30) gX5_afterDays_X4_warmth rfl hdX4_warmth rfl rfl rfl ⟨Nat.le_of_ble_eq_true rfl, Nat.le_of_ble_eq_true rfl⟩ (by decide) rfl rfl rfl (Nat.le_of_ble_eq_true rfl) ⟨Nat.le_of_ble_eq_true rfl, Nat.le_of_ble_eq_true rfl⟩ dX5_afterDays_80 (fun H locs hP hS => ?_)
        obtain ⟨r_34, μ_32, hc_33, hf⟩ := bnd_some hf
        refine rV1 (R := rmX5_afterDays) (As := [.int r_31]) (rest := []) F hP hS hl (mX4_heardBy l G F.2.2.2.2 9 rfl r_31 _ _ _ hc_33) gX5_afterDays_X4_heardBy rfl hdX4_heardBy rfl rfl rfl ⟨Nat.le_of_ble_eq_true rfl, Nat.le_of_ble_eq_true rfl⟩ (by decide) rfl rfl rfl (Nat.le_of_ble_eq_true rfl) ⟨Nat.le_of_ble_eq_true rfl, Nat.le_of_ble_eq_true rfl⟩ dX5_afterDays_83 (fun H locs hP hS => ?_)
        refine jz_le (tgt := 92) F dX5_afterDays_86 (by decide) hf (fun hf => ?_) (fun hf => ?_)
        · refine top_n hf (fun y_35 ey_35 hf => ?_)
          refine lv_iinc (v := y_35) (lv' := [(6, .int y_35), (7, .int y_19), (0, .ref (ga G 0)), (1, .ref (ga G j1)), (2, .int x2), (3, .int x3), (4, .int x4), (5, .int x5)]) F.1.1 F.1.2.1 dX5_afterDays_92 hl (k := 7) rfl ey_35 (by decide) rfl (fun ls hl => ?_)
          refine lv_goto (tgt := 17) F.1.1 F.1.2.1 dX5_afterDays_95 (by decide) ?_
          exact ih17 x5 y_35 μ_32 H locs ls hP hS (lv_sub hl [2, 3, 4, 5, 6, 7, 0] rfl) hf
        · refine top_n hf (fun y_36 ey_36 hf => ?_)
          refine lv_iinc (v := y_36) (lv' := [(5, .int y_36), (7, .int y_19), (0, .ref (ga G 0)), (1, .ref (ga G j1)), (2, .int x2), (3, .int x3), (4, .int x4), (6, .int x6)]) F.1.1 F.1.2.1 dX5_afterDays_89 hl (k := 6) rfl ey_36 (by decide) rfl (fun ls hl => ?_)
          refine top_n hf (fun y_37 ey_37 hf => ?_)
          refine lv_iinc (v := y_37) (lv' := [(6, .int y_37), (5, .int y_36), (7, .int y_19), (0, .ref (ga G 0)), (1, .ref (ga G j1)), (2, .int x2), (3, .int x3), (4, .int x4)]) F.1.1 F.1.2.1 dX5_afterDays_92 hl (k := 7) rfl ey_37 (by decide) rfl (fun ls hl => ?_)
          refine lv_goto (tgt := 17) F.1.1 F.1.2.1 dX5_afterDays_95 (by decide) ?_
          exact ih17 y_36 y_37 μ_32 H locs ls hP hS (lv_sub hl [3, 4, 5, 6, 7, 1, 0] rfl) hf
      · refine lv_iload F.1.1 F.1.2.1 dX5_afterDays_55 (lv_at hl 5 rfl) ?_
        refine lv_iconst (v := (1 : Int32)) F.1.1 F.1.2.1 dX5_afterDays_57 (by decide) ?_
        refine jc_ne (tgt := 66) F dX5_afterDays_58 (by decide) hf (fun hf => ?_) (fun hf => ?_)
        · refine lv_bipush (v := (-100 : Int32)) F.1.1 F.1.2.1 dX5_afterDays_66 (by decide) ?_
          refine lv_iload F.1.1 F.1.2.1 dX5_afterDays_68 (lv_at hl 7 rfl) ?_
          refine lv_isub F.1.1 F.1.2.1 dX5_afterDays_70 ?_
          exact retI F hP hS dX5_afterDays_71 hf
        · refine lv_iload F.1.1 F.1.2.1 dX5_afterDays_61 (lv_at hl 7 rfl) ?_
          refine lv_goto (tgt := 71) F.1.1 F.1.2.1 dX5_afterDays_63 (by decide) ?_
          exact retI F hP hS dX5_afterDays_71 hf
set_option maxHeartbeats 4000000 in
set_option maxRecDepth 100000 in
theorem mX5_afterDays (l : Launch) (G : GT) (hG : GD G) (j1 : Nat) (sj1 : sh j1 = 3) (x2 : Int32) (x3 : Int32) (x4 : Int32) (μ : Mem) (r : Int32) (μ' : Mem) (hf : fX5_afterDays j1 x2 x3 x4 μ = some (r, μ')) : Ct l yX5_afterDays wsX5_afterDays rmX5_afterDays G [.ref (ga G 0), .ref (ga G j1), .int x2, .int x3, .int x4] μ (some (.int r)) μ' := by
  refine Ct.of (cc := cX5_afterDays) (maxL := 8) (ret := (some .int)) (own := RX5) hG (by decide) rfl rfl (Nat.le_of_ble_eq_true rfl) ?_
  intro p e s m args below meth c ls H locs F hl hP hS
  have hl : lv_has ls 8 [(0, .ref (ga G 0)), (1, .ref (ga G j1)), (2, .int x2), (3, .int x3), (4, .int x4)] := hl
  unfold fX5_afterDays at hf
  refine lv_aload_n F.1.1 F.1.2.1 dX5_afterDays_0 rfl (lv_at hl 0 rfl) ?_
  refine gt_5_1 F hP 0 rfl inX5_afterDays_5 kX5_afterDays_18 dX5_afterDays_1 ?_
  refine lv_aload_n F.1.1 F.1.2.1 dX5_afterDays_4 rfl (lv_at hl 0 rfl) ?_
  refine gt_5_0 F hP 0 rfl inX5_afterDays_5 kX5_afterDays_12 dX5_afterDays_5 ?_
  obtain ⟨u_3, μ_1, hc_2, hf⟩ := bnd_some hf
  refine rVv (R := rmX5_afterDays) (As := [.ref (ga G 1)]) (rest := []) F hP hS hl (mX4_become l G F.2.2.2.2 9 rfl 1 rfl _ _ _ hc_2) gX5_afterDays_X4_become rfl hdX4_become rfl rfl rfl ⟨Nat.le_of_ble_eq_true rfl, Nat.le_of_ble_eq_true rfl⟩ (by decide) rfl rfl rfl (Nat.le_of_ble_eq_true rfl) ⟨Nat.le_of_ble_eq_true rfl, Nat.le_of_ble_eq_true rfl⟩ dX5_afterDays_8 (fun H locs hP hS => ?_)
  refine lv_iconst (v := (0 : Int32)) F.1.1 F.1.2.1 dX5_afterDays_11 (by decide) ?_
  refine lv_istore (lv' := [(5, .int (0 : Int32)), (0, .ref (ga G 0)), (1, .ref (ga G j1)), (2, .int x2), (3, .int x3), (4, .int x4)]) F.1.1 F.1.2.1 dX5_afterDays_12 hl (by decide) rfl (fun ls hl => ?_)
  refine lv_iconst (v := (0 : Int32)) F.1.1 F.1.2.1 dX5_afterDays_14 (by decide) ?_
  refine lv_istore (lv' := [(6, .int (0 : Int32)), (5, .int (0 : Int32)), (0, .ref (ga G 0)), (1, .ref (ga G j1)), (2, .int x2), (3, .int x3), (4, .int x4)]) F.1.1 F.1.2.1 dX5_afterDays_15 hl (by decide) rfl (fun ls hl => ?_)
  exact lX5_afterDays_L17 l G F j1 sj1 x2 x3 x4 _ _ FU (0 : Int32) (0 : Int32) μ_1 H locs ls hP hS (lv_sub hl [2, 3, 4, 5, 6, 1, 0] rfl) hf
abbrev rmX5_days : Room := { frames := 6, cells := 0, slots := 0, locals := 138 }
theorem hdX5_days : yX5_days.cls = RX5 ∧ yX5_days.cls ≠ "java/lang/invoke/MethodHandle" ∧ yX5_days.cls ≠ "java/lang/invoke/VarHandle" ∧ (parseMethodDescriptor yX5_days.desc).map (fun d => d.parameters.length) = some 5 := by decide +kernel
theorem kX5_days_12 : Cond.fieldLink RX5 12 "PaperLayers" "now" "LPaperLayers$Wall;" ∈ wsX5_days := List.mem_cons_of_mem _ (List.mem_append_left _ (List.mem_append_left _ (List.mem_append_left _ (List.mem_append_left _ (List.mem_append_left _ (List.mem_of_getElem? (i := 1) rfl))))))
theorem kX5_days_42 : Cond.fieldLink RX5 42 "PaperLayers" "latestFault" "I" ∈ wsX5_days := List.mem_cons_of_mem _ (List.mem_append_left _ (List.mem_append_left _ (List.mem_append_left _ (List.mem_append_left _ (List.mem_append_left _ (List.mem_of_getElem? (i := 0) rfl))))))
theorem inX5_days_5 : ∀ w ∈ wsX50, w ∈ wsX5_days := fun _ h => List.mem_cons_of_mem _ (List.mem_append_left _ (List.mem_append_left _ (List.mem_append_left _ (List.mem_append_right _ (h)))))
set_option maxHeartbeats 4000000 in
set_option maxRecDepth 100000 in
theorem mX5_days (l : Launch) (G : GT) (hG : GD G) (x1 : Int32) (x2 : Int32) (x3 : Int32) (x4 : Int32) (x5 : Int32) (μ : Mem) (r : Int32) (μ' : Mem) (hf : fX5_days x1 x2 x3 x4 x5 μ = some (r, μ')) : Ct l yX5_days wsX5_days rmX5_days G [.ref (ga G 0), .int x1, .int x2, .int x3, .int x4, .int x5] μ (some (.int r)) μ' := by
  refine Ct.of (cc := cX5_days) (maxL := 8) (ret := (some .int)) (own := RX5) hG (by decide) rfl rfl (Nat.le_of_ble_eq_true rfl) ?_
  intro p e s m args below meth c ls H locs F hl hP hS
  have hl : lv_has ls 8 [(0, .ref (ga G 0)), (1, .int x1), (2, .int x2), (3, .int x3), (4, .int x4), (5, .int x5)] := hl
  unfold fX5_days at hf
  refine lv_aload_n F.1.1 F.1.2.1 dX5_days_0 rfl (lv_at hl 0 rfl) ?_
  refine lv_iconst (v := (0 : Int32)) F.1.1 F.1.2.1 dX5_days_1 (by decide) ?_
  refine pt_5_6 F hP hS 0 rfl inX5_days_5 kX5_days_42 dX5_days_2 hf (fun μ_1 H locs hP hS hf => ?_)
  refine lv_aload_n F.1.1 F.1.2.1 dX5_days_5 rfl (lv_at hl 0 rfl) ?_
  refine lv_iload_n F.1.1 F.1.2.1 dX5_days_6 rfl (lv_at hl 1 rfl) ?_
  obtain ⟨r_4, μ_2, hc_3, hf⟩ := bnd_some hf
  refine rV1 (R := rmX5_days) (As := [.int x1]) (rest := []) F hP hS hl (mX5_sheetAt l G F.2.2.2.2 x1 _ _ _ hc_3) gX5_days_X5_sheetAt rfl hdX5_sheetAt rfl rfl rfl ⟨Nat.le_of_ble_eq_true rfl, Nat.le_of_ble_eq_true rfl⟩ (by decide) rfl rfl rfl (Nat.le_of_ble_eq_true rfl) ⟨Nat.le_of_ble_eq_true rfl, Nat.le_of_ble_eq_true rfl⟩ dX5_days_7 (fun H locs hP hS => ?_)
  refine top_o hf (fun hf => ?_) (fun i_5 ho_6 hf => ?_)
  · refine lv_astoreN (lv' := [(6, .null), (0, .ref (ga G 0)), (1, .int x1), (2, .int x2), (3, .int x3), (4, .int x4), (5, .int x5)]) F.1.1 F.1.2.1 dX5_days_10 hl (by decide) rfl (fun ls hl => ?_)
    refine lv_aloadN F.1.1 F.1.2.1 dX5_days_12 (lv_at hl 0 rfl) ?_
    refine lv_ifnonnullN F.1.1 F.1.2.1 dX5_days_14 ?_
    refine lv_iconst (v := (-1 : Int32)) F.1.1 F.1.2.1 dX5_days_17 (by decide) ?_
    exact retI F hP hS dX5_days_18 hf
  · have s_7 := shX5_sheetAt_r (ho_6 ▸ hc_3)
    refine lv_astore (lv' := [(6, .ref (ga G i_5)), (0, .ref (ga G 0)), (1, .int x1), (2, .int x2), (3, .int x3), (4, .int x4), (5, .int x5)]) F.1.1 F.1.2.1 dX5_days_10 hl (by decide) rfl (fun ls hl => ?_)
    refine lv_aload F.1.1 F.1.2.1 dX5_days_12 (lv_at hl 0 rfl) ?_
    refine lv_ifnonnull (tgt := 19) F.1.1 F.1.2.1 dX5_days_14 (by decide) ?_
    refine lv_iload_n F.1.1 F.1.2.1 dX5_days_19 rfl (lv_at hl 3 rfl) ?_
    refine lv_iconst (v := (2 : Int32)) F.1.1 F.1.2.1 dX5_days_20 (by decide) ?_
    obtain ⟨r_10, μ_8, hc_9, hf⟩ := bnd_some hf
    refine rS1 (R := rmX5_days) (As := [.int x2, .int (2 : Int32)]) (rest := []) F hP hS hl (mX5_isUpTo l G F.2.2.2.2 x2 (2 : Int32) _ _ _ hc_9) gX5_days_X5_isUpTo hdX5_isUpTo rfl rfl rfl ⟨Nat.le_of_ble_eq_true rfl, Nat.le_of_ble_eq_true rfl⟩ rfl rfl (Nat.le_of_ble_eq_true rfl) ⟨Nat.le_of_ble_eq_true rfl, Nat.le_of_ble_eq_true rfl⟩ dX5_days_21 (fun H locs hP hS => ?_)
    refine jz_eq (tgt := 46) F dX5_days_24 (by decide) hf (fun hf => ?_) (fun hf => ?_)
    · refine lv_bipush (v := (-2 : Int32)) F.1.1 F.1.2.1 dX5_days_46 (by decide) ?_
      exact retI F hP hS dX5_days_48 hf
    · refine lv_iload F.1.1 F.1.2.1 dX5_days_27 (lv_at hl 5 rfl) ?_
      refine lv_bipush (v := (20 : Int32)) F.1.1 F.1.2.1 dX5_days_29 (by decide) ?_
      obtain ⟨r_13, μ_11, hc_12, hf⟩ := bnd_some hf
      refine rS1 (R := rmX5_days) (As := [.int x4, .int (20 : Int32)]) (rest := []) F hP hS hl (mX5_isUpTo l G F.2.2.2.2 x4 (20 : Int32) _ _ _ hc_12) gX5_days_X5_isUpTo hdX5_isUpTo rfl rfl rfl ⟨Nat.le_of_ble_eq_true rfl, Nat.le_of_ble_eq_true rfl⟩ rfl rfl (Nat.le_of_ble_eq_true rfl) ⟨Nat.le_of_ble_eq_true rfl, Nat.le_of_ble_eq_true rfl⟩ dX5_days_31 (fun H locs hP hS => ?_)
      refine jz_eq (tgt := 46) F dX5_days_34 (by decide) hf (fun hf => ?_) (fun hf => ?_)
      · refine lv_bipush (v := (-2 : Int32)) F.1.1 F.1.2.1 dX5_days_46 (by decide) ?_
        exact retI F hP hS dX5_days_48 hf
      · refine lv_iload F.1.1 F.1.2.1 dX5_days_37 (lv_at hl 6 rfl) ?_
        refine lv_iconst (v := (4 : Int32)) F.1.1 F.1.2.1 dX5_days_39 (by decide) ?_
        obtain ⟨r_16, μ_14, hc_15, hf⟩ := bnd_some hf
        refine rS1 (R := rmX5_days) (As := [.int x5, .int (4 : Int32)]) (rest := []) F hP hS hl (mX5_isUpTo l G F.2.2.2.2 x5 (4 : Int32) _ _ _ hc_15) gX5_days_X5_isUpTo hdX5_isUpTo rfl rfl rfl ⟨Nat.le_of_ble_eq_true rfl, Nat.le_of_ble_eq_true rfl⟩ rfl rfl (Nat.le_of_ble_eq_true rfl) ⟨Nat.le_of_ble_eq_true rfl, Nat.le_of_ble_eq_true rfl⟩ dX5_days_40 (fun H locs hP hS => ?_)
        refine jz_ne (tgt := 49) F dX5_days_43 (by decide) hf (fun hf => ?_) (fun hf => ?_)
        · refine lv_aload F.1.1 F.1.2.1 dX5_days_49 (lv_at hl 0 rfl) ?_
          refine lv_iload_n F.1.1 F.1.2.1 dX5_days_51 rfl (lv_at hl 3 rfl) ?_
          obtain ⟨r_19, μ_17, hc_18, hf⟩ := bnd_some hf
          refine rV1 (R := rmX5_days) (As := [.int x2]) (rest := []) F hP hS hl (mX3_faultAsLane l G F.2.2.2.2 i_5 s_7 x2 _ _ _ hc_18) gX5_days_X3_faultAsLane s_7 hdX3_faultAsLane rfl rfl rfl ⟨Nat.le_of_ble_eq_true rfl, Nat.le_of_ble_eq_true rfl⟩ (by decide) rfl rfl rfl (Nat.le_of_ble_eq_true rfl) ⟨Nat.le_of_ble_eq_true rfl, Nat.le_of_ble_eq_true rfl⟩ dX5_days_52 (fun H locs hP hS => ?_)
          refine lv_istore (lv' := [(7, .int r_19), (6, .ref (ga G i_5)), (0, .ref (ga G 0)), (1, .int x1), (2, .int x2), (3, .int x3), (4, .int x4), (5, .int x5)]) F.1.1 F.1.2.1 dX5_days_55 hl (by decide) rfl (fun ls hl => ?_)
          refine lv_iload F.1.1 F.1.2.1 dX5_days_57 (lv_at hl 0 rfl) ?_
          refine jz_ne (tgt := 74) F dX5_days_59 (by decide) hf (fun hf => ?_) (fun hf => ?_)
          · refine lv_iload F.1.1 F.1.2.1 dX5_days_74 (lv_at hl 0 rfl) ?_
            refine jz_eq (tgt := 86) F dX5_days_76 (by decide) hf (fun hf => ?_) (fun hf => ?_)
            · refine lv_aload_n F.1.1 F.1.2.1 dX5_days_86 rfl (lv_at hl 2 rfl) ?_
              refine gt_5_0 F hP 0 rfl inX5_days_5 kX5_days_12 dX5_days_87 ?_
              obtain ⟨r_22, μ_20, hc_21, hf⟩ := bnd_some hf
              refine rV1 (R := rmX5_days) (As := []) (rest := []) F hP hS hl (mX4_stands l G F.2.2.2.2 1 rfl _ _ _ hc_21) gX5_days_X4_stands rfl hdX4_stands rfl rfl rfl ⟨Nat.le_of_ble_eq_true rfl, Nat.le_of_ble_eq_true rfl⟩ (by decide) rfl rfl rfl (Nat.le_of_ble_eq_true rfl) ⟨Nat.le_of_ble_eq_true rfl, Nat.le_of_ble_eq_true rfl⟩ dX5_days_90 (fun H locs hP hS => ?_)
              refine jz_ne (tgt := 99) F dX5_days_93 (by decide) hf (fun hf => ?_) (fun hf => ?_)
              · refine lv_aload F.1.1 F.1.2.1 dX5_days_99 (lv_at hl 1 rfl) ?_
                refine lv_iload_n F.1.1 F.1.2.1 dX5_days_101 rfl (lv_at hl 5 rfl) ?_
                refine lv_iload F.1.1 F.1.2.1 dX5_days_102 (lv_at hl 6 rfl) ?_
                obtain ⟨r_25, μ_23, hc_24, hf⟩ := bnd_some hf
                refine rS1 (R := rmX5_days) (As := [.ref (ga G i_5), .int x3, .int x4]) (rest := []) F hP hS hl (mX5_areActs l G F.2.2.2.2 i_5 s_7 x3 x4 _ _ _ hc_24) gX5_days_X5_areActs hdX5_areActs rfl rfl rfl ⟨Nat.le_of_ble_eq_true rfl, Nat.le_of_ble_eq_true rfl⟩ rfl rfl (Nat.le_of_ble_eq_true rfl) ⟨Nat.le_of_ble_eq_true rfl, Nat.le_of_ble_eq_true rfl⟩ dX5_days_104 (fun H locs hP hS => ?_)
                refine jz_eq (tgt := 124) F dX5_days_107 (by decide) hf (fun hf => ?_) (fun hf => ?_)
                · refine lv_bipush (v := (-2 : Int32)) F.1.1 F.1.2.1 dX5_days_124 (by decide) ?_
                  exact retI F hP hS dX5_days_126 hf
                · refine lv_aload_n F.1.1 F.1.2.1 dX5_days_110 rfl (lv_at hl 2 rfl) ?_
                  refine lv_aload F.1.1 F.1.2.1 dX5_days_111 (lv_at hl 1 rfl) ?_
                  refine lv_iload_n F.1.1 F.1.2.1 dX5_days_113 rfl (lv_at hl 5 rfl) ?_
                  refine lv_iload F.1.1 F.1.2.1 dX5_days_114 (lv_at hl 6 rfl) ?_
                  refine lv_iload F.1.1 F.1.2.1 dX5_days_116 (lv_at hl 7 rfl) ?_
                  obtain ⟨r_28, μ_26, hc_27, hf⟩ := bnd_some hf
                  refine rV1 (R := rmX5_days) (As := [.ref (ga G i_5), .int x3, .int x4, .int x5]) (rest := []) F hP hS hl (mX5_afterDays l G F.2.2.2.2 i_5 s_7 x3 x4 x5 _ _ _ hc_27) gX5_days_X5_afterDays rfl hdX5_afterDays rfl rfl rfl ⟨Nat.le_of_ble_eq_true rfl, Nat.le_of_ble_eq_true rfl⟩ (by decide) rfl rfl rfl (Nat.le_of_ble_eq_true rfl) ⟨Nat.le_of_ble_eq_true rfl, Nat.le_of_ble_eq_true rfl⟩ dX5_days_118 (fun H locs hP hS => ?_)
                  refine lv_goto (tgt := 126) F.1.1 F.1.2.1 dX5_days_121 (by decide) ?_
                  exact retI F hP hS dX5_days_126 hf
              · refine lv_bipush (v := (-3 : Int32)) F.1.1 F.1.2.1 dX5_days_96 (by decide) ?_
                exact retI F hP hS dX5_days_98 hf
            · refine lv_aload_n F.1.1 F.1.2.1 dX5_days_79 rfl (lv_at hl 2 rfl) ?_
              refine lv_iload F.1.1 F.1.2.1 dX5_days_80 (lv_at hl 0 rfl) ?_
              obtain ⟨r_31, μ_29, hc_30, hf⟩ := bnd_some hf
              refine rV1 (R := rmX5_days) (As := [.int r_19]) (rest := []) F hP hS hl (mX5_failed l G F.2.2.2.2 r_19 _ _ _ hc_30) gX5_days_X5_failed rfl hdX5_failed rfl rfl rfl ⟨Nat.le_of_ble_eq_true rfl, Nat.le_of_ble_eq_true rfl⟩ (by decide) rfl rfl rfl (Nat.le_of_ble_eq_true rfl) ⟨Nat.le_of_ble_eq_true rfl, Nat.le_of_ble_eq_true rfl⟩ dX5_days_82 (fun H locs hP hS => ?_)
              exact retI F hP hS dX5_days_85 hf
          · refine lv_aload F.1.1 F.1.2.1 dX5_days_62 (lv_at hl 1 rfl) ?_
            refine lv_iload_n F.1.1 F.1.2.1 dX5_days_64 rfl (lv_at hl 5 rfl) ?_
            refine lv_iconst (v := (2 : Int32)) F.1.1 F.1.2.1 dX5_days_65 (by decide) ?_
            refine lv_iload F.1.1 F.1.2.1 dX5_days_66 (lv_at hl 6 rfl) ?_
            refine lv_imul F.1.1 F.1.2.1 dX5_days_68 ?_
            obtain ⟨r_34, μ_32, hc_33, hf⟩ := bnd_some hf
            refine rV1 (R := rmX5_days) (As := [.int x3, .int ((2 : Int32) * x4)]) (rest := []) F hP hS hl (mX3_faultOfCells l G F.2.2.2.2 i_5 s_7 x3 ((2 : Int32) * x4) _ _ _ hc_33) gX5_days_X3_faultOfCells s_7 hdX3_faultOfCells rfl rfl rfl ⟨Nat.le_of_ble_eq_true rfl, Nat.le_of_ble_eq_true rfl⟩ (by decide) rfl rfl rfl (Nat.le_of_ble_eq_true rfl) ⟨Nat.le_of_ble_eq_true rfl, Nat.le_of_ble_eq_true rfl⟩ dX5_days_69 (fun H locs hP hS => ?_)
            refine lv_istore (lv' := [(7, .int r_34), (6, .ref (ga G i_5)), (0, .ref (ga G 0)), (1, .int x1), (2, .int x2), (3, .int x3), (4, .int x4), (5, .int x5)]) F.1.1 F.1.2.1 dX5_days_72 hl (by decide) rfl (fun ls hl => ?_)
            refine lv_iload F.1.1 F.1.2.1 dX5_days_74 (lv_at hl 0 rfl) ?_
            refine jz_eq (tgt := 86) F dX5_days_76 (by decide) hf (fun hf => ?_) (fun hf => ?_)
            · refine lv_aload_n F.1.1 F.1.2.1 dX5_days_86 rfl (lv_at hl 2 rfl) ?_
              refine gt_5_0 F hP 0 rfl inX5_days_5 kX5_days_12 dX5_days_87 ?_
              obtain ⟨r_37, μ_35, hc_36, hf⟩ := bnd_some hf
              refine rV1 (R := rmX5_days) (As := []) (rest := []) F hP hS hl (mX4_stands l G F.2.2.2.2 1 rfl _ _ _ hc_36) gX5_days_X4_stands rfl hdX4_stands rfl rfl rfl ⟨Nat.le_of_ble_eq_true rfl, Nat.le_of_ble_eq_true rfl⟩ (by decide) rfl rfl rfl (Nat.le_of_ble_eq_true rfl) ⟨Nat.le_of_ble_eq_true rfl, Nat.le_of_ble_eq_true rfl⟩ dX5_days_90 (fun H locs hP hS => ?_)
              refine jz_ne (tgt := 99) F dX5_days_93 (by decide) hf (fun hf => ?_) (fun hf => ?_)
              · refine lv_aload F.1.1 F.1.2.1 dX5_days_99 (lv_at hl 1 rfl) ?_
                refine lv_iload_n F.1.1 F.1.2.1 dX5_days_101 rfl (lv_at hl 5 rfl) ?_
                refine lv_iload F.1.1 F.1.2.1 dX5_days_102 (lv_at hl 6 rfl) ?_
                obtain ⟨r_40, μ_38, hc_39, hf⟩ := bnd_some hf
                refine rS1 (R := rmX5_days) (As := [.ref (ga G i_5), .int x3, .int x4]) (rest := []) F hP hS hl (mX5_areActs l G F.2.2.2.2 i_5 s_7 x3 x4 _ _ _ hc_39) gX5_days_X5_areActs hdX5_areActs rfl rfl rfl ⟨Nat.le_of_ble_eq_true rfl, Nat.le_of_ble_eq_true rfl⟩ rfl rfl (Nat.le_of_ble_eq_true rfl) ⟨Nat.le_of_ble_eq_true rfl, Nat.le_of_ble_eq_true rfl⟩ dX5_days_104 (fun H locs hP hS => ?_)
                refine jz_eq (tgt := 124) F dX5_days_107 (by decide) hf (fun hf => ?_) (fun hf => ?_)
                · refine lv_bipush (v := (-2 : Int32)) F.1.1 F.1.2.1 dX5_days_124 (by decide) ?_
                  exact retI F hP hS dX5_days_126 hf
                · refine lv_aload_n F.1.1 F.1.2.1 dX5_days_110 rfl (lv_at hl 2 rfl) ?_
                  refine lv_aload F.1.1 F.1.2.1 dX5_days_111 (lv_at hl 1 rfl) ?_
                  refine lv_iload_n F.1.1 F.1.2.1 dX5_days_113 rfl (lv_at hl 5 rfl) ?_
                  refine lv_iload F.1.1 F.1.2.1 dX5_days_114 (lv_at hl 6 rfl) ?_
                  refine lv_iload F.1.1 F.1.2.1 dX5_days_116 (lv_at hl 7 rfl) ?_
                  obtain ⟨r_43, μ_41, hc_42, hf⟩ := bnd_some hf
                  refine rV1 (R := rmX5_days) (As := [.ref (ga G i_5), .int x3, .int x4, .int x5]) (rest := []) F hP hS hl (mX5_afterDays l G F.2.2.2.2 i_5 s_7 x3 x4 x5 _ _ _ hc_42) gX5_days_X5_afterDays rfl hdX5_afterDays rfl rfl rfl ⟨Nat.le_of_ble_eq_true rfl, Nat.le_of_ble_eq_true rfl⟩ (by decide) rfl rfl rfl (Nat.le_of_ble_eq_true rfl) ⟨Nat.le_of_ble_eq_true rfl, Nat.le_of_ble_eq_true rfl⟩ dX5_days_118 (fun H locs hP hS => ?_)
                  refine lv_goto (tgt := 126) F.1.1 F.1.2.1 dX5_days_121 (by decide) ?_
                  exact retI F hP hS dX5_days_126 hf
              · refine lv_bipush (v := (-3 : Int32)) F.1.1 F.1.2.1 dX5_days_96 (by decide) ?_
                exact retI F hP hS dX5_days_98 hf
            · refine lv_aload_n F.1.1 F.1.2.1 dX5_days_79 rfl (lv_at hl 2 rfl) ?_
              refine lv_iload F.1.1 F.1.2.1 dX5_days_80 (lv_at hl 0 rfl) ?_
              obtain ⟨r_46, μ_44, hc_45, hf⟩ := bnd_some hf
              refine rV1 (R := rmX5_days) (As := [.int r_34]) (rest := []) F hP hS hl (mX5_failed l G F.2.2.2.2 r_34 _ _ _ hc_45) gX5_days_X5_failed rfl hdX5_failed rfl rfl rfl ⟨Nat.le_of_ble_eq_true rfl, Nat.le_of_ble_eq_true rfl⟩ (by decide) rfl rfl rfl (Nat.le_of_ble_eq_true rfl) ⟨Nat.le_of_ble_eq_true rfl, Nat.le_of_ble_eq_true rfl⟩ dX5_days_82 (fun H locs hP hS => ?_)
              exact retI F hP hS dX5_days_85 hf
        · refine lv_bipush (v := (-2 : Int32)) F.1.1 F.1.2.1 dX5_days_46 (by decide) ?_
          exact retI F hP hS dX5_days_48 hf
abbrev rmX5_needs : Room := { frames := 2, cells := 0, slots := 0, locals := 42 }
theorem hdX5_needs : yX5_needs.cls = RX5 ∧ yX5_needs.cls ≠ "java/lang/invoke/MethodHandle" ∧ yX5_needs.cls ≠ "java/lang/invoke/VarHandle" ∧ (parseMethodDescriptor yX5_needs.desc).map (fun d => d.parameters.length) = some 1 := by decide +kernel
theorem kX5_needs_112 : Cond.fieldLink RX5 112 "PaperLayers$Wall" "damp" "I" ∈ wsX5_needs := List.mem_cons_of_mem _ (List.mem_append_left _ (List.mem_append_left _ (List.mem_append_left _ (List.mem_of_getElem? (i := 1) rfl))))
theorem kX5_needs_12 : Cond.fieldLink RX5 12 "PaperLayers" "now" "LPaperLayers$Wall;" ∈ wsX5_needs := List.mem_cons_of_mem _ (List.mem_append_left _ (List.mem_append_left _ (List.mem_append_left _ (List.mem_of_getElem? (i := 0) rfl))))
theorem inX5_needs_4 : ∀ w ∈ wsX40, w ∈ wsX5_needs := fun _ h => List.mem_cons_of_mem _ (List.mem_append_left _ (List.mem_append_right _ (h)))
theorem inX5_needs_5 : ∀ w ∈ wsX50, w ∈ wsX5_needs := fun _ h => List.mem_cons_of_mem _ (List.mem_append_left _ (List.mem_append_left _ (List.mem_append_right _ (h))))
set_option maxHeartbeats 4000000 in
set_option maxRecDepth 100000 in
theorem lX5_needs_L15 (l : Launch) (G : GT) {p : Program} {e : Env} {s : State} {m : MethodId} {args : Array Value} {below : List Frame} {meth : Method} {c : Code} (F : Fx p s m args meth c cX5_needs 3 wsX5_needs RX5 (some .int) G) (x1 : Int32) (r : Int32) (μ' : Mem) : ∀ (fuel : Nat), ∀ (x2 : Int32) (μ : Mem) (H : Heap) (locs : List Loc) (ls : Array Slot), Hh G μ H → va_S (gA G) s.heap H locs → lv_has ls 3 [(0, .ref (ga G 0)), (1, .int x1), (2, .int x2)] → fX5_needs_L15 x1 fuel x2 μ = some (r, μ') → W p l e rmX5_needs s m args below meth c H locs 0 0 (MQ below (Qg G (some (.int r)) μ') args s 0 0 (gA G)) (F0 m 15 ls []) := by
  intro fuel
  induction fuel with
  | zero =>
    intro x2 μ H locs ls hP hS hl hf
    exact absurd hf (by intro h; cases h)
  | succ fuel ih15 =>
    intro x2 μ H locs ls hP hS hl hf
    have hf : sX5_needs_L15 (fX5_needs_L15 x1 fuel) x1 x2 μ = some (r, μ') := hf
    unfold sX5_needs_L15 at hf
    refine lv_iload_n F.1.1 F.1.2.1 dX5_needs_15 rfl (lv_at hl 2 rfl) ?_
    refine lv_bipush (v := (20 : Int32)) F.1.1 F.1.2.1 dX5_needs_16 (by decide) ?_
    refine jc_gt (tgt := 49) F dX5_needs_18 (by decide) hf (fun hf => ?_) (fun hf => ?_)
    · refine lv_bipush (v := (-9 : Int32)) F.1.1 F.1.2.1 dX5_needs_49 (by decide) ?_
      exact retI F hP hS dX5_needs_51 hf
    · refine lv_iload_n F.1.1 F.1.2.1 dX5_needs_21 rfl (lv_at hl 1 rfl) ?_
      refine lv_aload_n F.1.1 F.1.2.1 dX5_needs_22 rfl (lv_at hl 0 rfl) ?_
      refine gt_5_0 F hP 0 rfl inX5_needs_5 kX5_needs_12 dX5_needs_23 ?_
      refine lv_iload_n F.1.1 F.1.2.1 dX5_needs_26 rfl (lv_at hl 2 rfl) ?_
      refine lv_aload_n F.1.1 F.1.2.1 dX5_needs_27 rfl (lv_at hl 0 rfl) ?_
      refine gt_5_0 F hP 0 rfl inX5_needs_5 kX5_needs_12 dX5_needs_28 ?_
      refine gt_4_3 F hP 1 rfl inX5_needs_4 kX5_needs_112 dX5_needs_31 ?_
      refine lv_isub F.1.1 F.1.2.1 dX5_needs_34 ?_
      obtain ⟨r_9, μ_7, hc_8, hf⟩ := bnd_some hf
      refine rV1 (R := rmX5_needs) (As := [.int (x2 - (μ 1 3))]) (rest := [.int x1]) F hP hS hl (mX4_heardBy l G F.2.2.2.2 1 rfl (x2 - (μ 1 3)) _ _ _ hc_8) gX5_needs_X4_heardBy rfl hdX4_heardBy rfl rfl rfl ⟨Nat.le_of_ble_eq_true rfl, Nat.le_of_ble_eq_true rfl⟩ (by decide) rfl rfl rfl (Nat.le_of_ble_eq_true rfl) ⟨Nat.le_of_ble_eq_true rfl, Nat.le_of_ble_eq_true rfl⟩ dX5_needs_35 (fun H locs hP hS => ?_)
      refine jc_ge (tgt := 43) F dX5_needs_38 (by decide) hf (fun hf => ?_) (fun hf => ?_)
      · refine top_n hf (fun y_10 ey_10 hf => ?_)
        refine lv_iinc (v := y_10) (lv' := [(2, .int y_10), (0, .ref (ga G 0)), (1, .int x1)]) F.1.1 F.1.2.1 dX5_needs_43 hl (k := 2) rfl ey_10 (by decide) rfl (fun ls hl => ?_)
        refine lv_goto (tgt := 15) F.1.1 F.1.2.1 dX5_needs_46 (by decide) ?_
        exact ih15 y_10 μ_7 H locs ls hP hS (lv_sub hl [1, 2, 0] rfl) hf
      · refine lv_iload_n F.1.1 F.1.2.1 dX5_needs_41 rfl (lv_at hl 2 rfl) ?_
        exact retI F hP hS dX5_needs_42 hf
set_option maxHeartbeats 4000000 in
set_option maxRecDepth 100000 in
theorem mX5_needs (l : Launch) (G : GT) (hG : GD G) (x1 : Int32) (μ : Mem) (r : Int32) (μ' : Mem) (hf : fX5_needs x1 μ = some (r, μ')) : Ct l yX5_needs wsX5_needs rmX5_needs G [.ref (ga G 0), .int x1] μ (some (.int r)) μ' := by
  refine Ct.of (cc := cX5_needs) (maxL := 3) (ret := (some .int)) (own := RX5) hG (by decide) rfl rfl (Nat.le_of_ble_eq_true rfl) ?_
  intro p e s m args below meth c ls H locs F hl hP hS
  have hl : lv_has ls 3 [(0, .ref (ga G 0)), (1, .int x1)] := hl
  unfold fX5_needs at hf
  refine lv_aload_n F.1.1 F.1.2.1 dX5_needs_0 rfl (lv_at hl 0 rfl) ?_
  refine gt_5_0 F hP 0 rfl inX5_needs_5 kX5_needs_12 dX5_needs_1 ?_
  refine lv_iload_n F.1.1 F.1.2.1 dX5_needs_4 rfl (lv_at hl 1 rfl) ?_
  obtain ⟨r_3, μ_1, hc_2, hf⟩ := bnd_some hf
  refine rV1 (R := rmX5_needs) (As := [.int x1]) (rest := []) F hP hS hl (mX4_layerAt l G F.2.2.2.2 1 rfl x1 _ _ _ hc_2) gX5_needs_X4_layerAt rfl hdX4_layerAt rfl rfl rfl ⟨Nat.le_of_ble_eq_true rfl, Nat.le_of_ble_eq_true rfl⟩ (by decide) rfl rfl rfl (Nat.le_of_ble_eq_true rfl) ⟨Nat.le_of_ble_eq_true rfl, Nat.le_of_ble_eq_true rfl⟩ dX5_needs_5 (fun H locs hP hS => ?_)
  refine top_o hf (fun hf => ?_) (fun i_4 ho_5 hf => ?_)
  · refine lv_ifnonnullN F.1.1 F.1.2.1 dX5_needs_8 ?_
    refine lv_iconst (v := (-1 : Int32)) F.1.1 F.1.2.1 dX5_needs_11 (by decide) ?_
    exact retI F hP hS dX5_needs_12 hf
  · have s_6 := shX4_layerAt_r rfl (ho_5 ▸ hc_2)
    refine lv_ifnonnull (tgt := 13) F.1.1 F.1.2.1 dX5_needs_8 (by decide) ?_
    refine lv_iconst (v := (0 : Int32)) F.1.1 F.1.2.1 dX5_needs_13 (by decide) ?_
    refine lv_istore_n (lv' := [(2, .int (0 : Int32)), (0, .ref (ga G 0)), (1, .int x1)]) F.1.1 F.1.2.1 dX5_needs_14 rfl hl (by decide) rfl (fun ls hl => ?_)
    exact lX5_needs_L15 l G F x1 _ _ FU (0 : Int32) μ_1 H locs ls hP hS (lv_sub hl [1, 2, 0] rfl) hf
abbrev rmX5_gets : Room := { frames := 3, cells := 0, slots := 0, locals := 70 }
theorem hdX5_gets : yX5_gets.cls = RX5 ∧ yX5_gets.cls ≠ "java/lang/invoke/MethodHandle" ∧ yX5_gets.cls ≠ "java/lang/invoke/VarHandle" ∧ (parseMethodDescriptor yX5_gets.desc).map (fun d => d.parameters.length) = some 1 := by decide +kernel
theorem kX5_gets_112 : Cond.fieldLink RX5 112 "PaperLayers$Wall" "damp" "I" ∈ wsX5_gets := List.mem_cons_of_mem _ (List.mem_append_left _ (List.mem_append_left _ (List.mem_append_left _ (List.mem_append_left _ (List.mem_of_getElem? (i := 1) rfl)))))
theorem kX5_gets_12 : Cond.fieldLink RX5 12 "PaperLayers" "now" "LPaperLayers$Wall;" ∈ wsX5_gets := List.mem_cons_of_mem _ (List.mem_append_left _ (List.mem_append_left _ (List.mem_append_left _ (List.mem_append_left _ (List.mem_of_getElem? (i := 0) rfl)))))
theorem inX5_gets_4 : ∀ w ∈ wsX40, w ∈ wsX5_gets := fun _ h => List.mem_cons_of_mem _ (List.mem_append_left _ (List.mem_append_right _ (h)))
theorem inX5_gets_5 : ∀ w ∈ wsX50, w ∈ wsX5_gets := fun _ h => List.mem_cons_of_mem _ (List.mem_append_left _ (List.mem_append_left _ (List.mem_append_right _ (h))))
set_option maxHeartbeats 4000000 in
set_option maxRecDepth 100000 in
theorem lX5_gets_L27 (l : Launch) (G : GT) {p : Program} {e : Env} {s : State} {m : MethodId} {args : Array Value} {below : List Frame} {meth : Method} {c : Code} (F : Fx p s m args meth c cX5_gets 3 wsX5_gets RX5 (some .int) G) (x1 : Int32) (r : Int32) (μ' : Mem) : ∀ (fuel : Nat), ∀ (x2 : Int32) (μ : Mem) (H : Heap) (locs : List Loc) (ls : Array Slot), Hh G μ H → va_S (gA G) s.heap H locs → lv_has ls 3 [(0, .ref (ga G 0)), (1, .int x1), (2, .int x2)] → fX5_gets_L27 x1 fuel x2 μ = some (r, μ') → W p l e rmX5_gets s m args below meth c H locs 0 0 (MQ below (Qg G (some (.int r)) μ') args s 0 0 (gA G)) (F0 m 27 ls []) := by
  intro fuel
  induction fuel with
  | zero =>
    intro x2 μ H locs ls hP hS hl hf
    exact absurd hf (by intro h; cases h)
  | succ fuel ih27 =>
    intro x2 μ H locs ls hP hS hl hf
    have hf : sX5_gets_L27 (fX5_gets_L27 x1 fuel) x1 x2 μ = some (r, μ') := hf
    unfold sX5_gets_L27 at hf
    refine lv_iload_n F.1.1 F.1.2.1 dX5_gets_27 rfl (lv_at hl 2 rfl) ?_
    refine lv_bipush (v := (20 : Int32)) F.1.1 F.1.2.1 dX5_gets_28 (by decide) ?_
    refine jc_gt (tgt := 61) F dX5_gets_30 (by decide) hf (fun hf => ?_) (fun hf => ?_)
    · refine lv_bipush (v := (-9 : Int32)) F.1.1 F.1.2.1 dX5_gets_61 (by decide) ?_
      exact retI F hP hS dX5_gets_63 hf
    · refine lv_aload_n F.1.1 F.1.2.1 dX5_gets_33 rfl (lv_at hl 0 rfl) ?_
      refine gt_5_0 F hP 0 rfl inX5_gets_5 kX5_gets_12 dX5_gets_34 ?_
      refine lv_iload_n F.1.1 F.1.2.1 dX5_gets_37 rfl (lv_at hl 2 rfl) ?_
      refine lv_aload_n F.1.1 F.1.2.1 dX5_gets_38 rfl (lv_at hl 0 rfl) ?_
      refine gt_5_0 F hP 0 rfl inX5_gets_5 kX5_gets_12 dX5_gets_39 ?_
      refine gt_4_3 F hP 1 rfl inX5_gets_4 kX5_gets_112 dX5_gets_42 ?_
      refine lv_isub F.1.1 F.1.2.1 dX5_gets_45 ?_
      obtain ⟨r_9, μ_7, hc_8, hf⟩ := bnd_some hf
      refine rV1 (R := rmX5_gets) (As := [.int (x2 - (μ 1 3))]) (rest := []) F hP hS hl (mX4_counselBy l G F.2.2.2.2 1 rfl (x2 - (μ 1 3)) _ _ _ hc_8) gX5_gets_X4_counselBy rfl hdX4_counselBy rfl rfl rfl ⟨Nat.le_of_ble_eq_true rfl, Nat.le_of_ble_eq_true rfl⟩ (by decide) rfl rfl rfl (Nat.le_of_ble_eq_true rfl) ⟨Nat.le_of_ble_eq_true rfl, Nat.le_of_ble_eq_true rfl⟩ dX5_gets_46 (fun H locs hP hS => ?_)
      refine lv_iload_n F.1.1 F.1.2.1 dX5_gets_49 rfl (lv_at hl 1 rfl) ?_
      refine jc_ne (tgt := 55) F dX5_gets_50 (by decide) hf (fun hf => ?_) (fun hf => ?_)
      · refine top_n hf (fun y_10 ey_10 hf => ?_)
        refine lv_iinc (v := y_10) (lv' := [(2, .int y_10), (0, .ref (ga G 0)), (1, .int x1)]) F.1.1 F.1.2.1 dX5_gets_55 hl (k := 2) rfl ey_10 (by decide) rfl (fun ls hl => ?_)
        refine lv_goto (tgt := 27) F.1.1 F.1.2.1 dX5_gets_58 (by decide) ?_
        exact ih27 y_10 μ_7 H locs ls hP hS (lv_sub hl [1, 2, 0] rfl) hf
      · refine lv_iload_n F.1.1 F.1.2.1 dX5_gets_53 rfl (lv_at hl 2 rfl) ?_
        exact retI F hP hS dX5_gets_54 hf
set_option maxHeartbeats 4000000 in
set_option maxRecDepth 100000 in
theorem mX5_gets (l : Launch) (G : GT) (hG : GD G) (x1 : Int32) (μ : Mem) (r : Int32) (μ' : Mem) (hf : fX5_gets x1 μ = some (r, μ')) : Ct l yX5_gets wsX5_gets rmX5_gets G [.ref (ga G 0), .int x1] μ (some (.int r)) μ' := by
  refine Ct.of (cc := cX5_gets) (maxL := 3) (ret := (some .int)) (own := RX5) hG (by decide) rfl rfl (Nat.le_of_ble_eq_true rfl) ?_
  intro p e s m args below meth c ls H locs F hl hP hS
  have hl : lv_has ls 3 [(0, .ref (ga G 0)), (1, .int x1)] := hl
  unfold fX5_gets at hf
  refine lv_iload_n F.1.1 F.1.2.1 dX5_gets_0 rfl (lv_at hl 1 rfl) ?_
  refine lv_bipush (v := (9 : Int32)) F.1.1 F.1.2.1 dX5_gets_1 (by decide) ?_
  obtain ⟨r_3, μ_1, hc_2, hf⟩ := bnd_some hf
  refine rS1 (R := rmX5_gets) (As := [.int x1, .int (9 : Int32)]) (rest := []) F hP hS hl (mX5_isUpTo l G F.2.2.2.2 x1 (9 : Int32) _ _ _ hc_2) gX5_gets_X5_isUpTo hdX5_isUpTo rfl rfl rfl ⟨Nat.le_of_ble_eq_true rfl, Nat.le_of_ble_eq_true rfl⟩ rfl rfl (Nat.le_of_ble_eq_true rfl) ⟨Nat.le_of_ble_eq_true rfl, Nat.le_of_ble_eq_true rfl⟩ dX5_gets_3 (fun H locs hP hS => ?_)
  refine jz_ne (tgt := 12) F dX5_gets_6 (by decide) hf (fun hf => ?_) (fun hf => ?_)
  · refine lv_aload_n F.1.1 F.1.2.1 dX5_gets_12 rfl (lv_at hl 0 rfl) ?_
    refine gt_5_0 F hP 0 rfl inX5_gets_5 kX5_gets_12 dX5_gets_13 ?_
    obtain ⟨r_6, μ_4, hc_5, hf⟩ := bnd_some hf
    refine rV1 (R := rmX5_gets) (As := []) (rest := []) F hP hS hl (mX4_stands l G F.2.2.2.2 1 rfl _ _ _ hc_5) gX5_gets_X4_stands rfl hdX4_stands rfl rfl rfl ⟨Nat.le_of_ble_eq_true rfl, Nat.le_of_ble_eq_true rfl⟩ (by decide) rfl rfl rfl (Nat.le_of_ble_eq_true rfl) ⟨Nat.le_of_ble_eq_true rfl, Nat.le_of_ble_eq_true rfl⟩ dX5_gets_16 (fun H locs hP hS => ?_)
    refine jz_ne (tgt := 25) F dX5_gets_19 (by decide) hf (fun hf => ?_) (fun hf => ?_)
    · refine lv_iconst (v := (0 : Int32)) F.1.1 F.1.2.1 dX5_gets_25 (by decide) ?_
      refine lv_istore_n (lv' := [(2, .int (0 : Int32)), (0, .ref (ga G 0)), (1, .int x1)]) F.1.1 F.1.2.1 dX5_gets_26 rfl hl (by decide) rfl (fun ls hl => ?_)
      exact lX5_gets_L27 l G F x1 _ _ FU (0 : Int32) μ_4 H locs ls hP hS (lv_sub hl [1, 2, 0] rfl) hf
    · refine lv_bipush (v := (-3 : Int32)) F.1.1 F.1.2.1 dX5_gets_22 (by decide) ?_
      exact retI F hP hS dX5_gets_24 hf
  · refine lv_bipush (v := (-2 : Int32)) F.1.1 F.1.2.1 dX5_gets_9 (by decide) ?_
    exact retI F hP hS dX5_gets_11 hf
abbrev rmJ6_bitCount_0f7a4 : Room := { frames := 0, cells := 0, slots := 0, locals := 0 }
theorem hdJ6_bitCount_0f7a4 : yJ6_bitCount_0f7a4.cls ≠ "java/lang/invoke/MethodHandle" ∧ yJ6_bitCount_0f7a4.cls ≠ "java/lang/invoke/VarHandle" ∧ (parseMethodDescriptor yJ6_bitCount_0f7a4.desc).map (fun d => d.parameters.length) = some 1 := by decide +kernel
theorem kJ6_bitCount_0f7a4_265 : Cond.constant RJ6 265 (1431655765) ∈ wsJ6_bitCount_0f7a4 := List.mem_cons_of_mem _ (List.mem_of_getElem? (i := 0) rfl)
theorem kJ6_bitCount_0f7a4_266 : Cond.constant RJ6 266 (858993459) ∈ wsJ6_bitCount_0f7a4 := List.mem_cons_of_mem _ (List.mem_of_getElem? (i := 1) rfl)
theorem kJ6_bitCount_0f7a4_267 : Cond.constant RJ6 267 (252645135) ∈ wsJ6_bitCount_0f7a4 := List.mem_cons_of_mem _ (List.mem_of_getElem? (i := 2) rfl)
set_option maxHeartbeats 4000000 in
set_option maxRecDepth 100000 in
theorem mJ6_bitCount_0f7a4 (l : Launch) (G : GT) (hG : GD G) (x0 : Int32) (μ : Mem) (r : Int32) (μ' : Mem) (hf : fJ6_bitCount_0f7a4 x0 μ = some (r, μ')) : Ct l yJ6_bitCount_0f7a4 wsJ6_bitCount_0f7a4 rmJ6_bitCount_0f7a4 G [.int x0] μ (some (.int r)) μ' := by
  refine Ct.of (cc := cJ6_bitCount_0f7a4) (maxL := 1) (ret := (some .int)) (own := RJ6) hG (by decide) rfl rfl (Nat.le_of_ble_eq_true rfl) ?_
  intro p e s m args below meth c ls H locs F hl hP hS
  have hl : lv_has ls 1 [(0, .int x0)] := hl
  unfold fJ6_bitCount_0f7a4 at hf
  refine lv_iload_n F.1.1 F.1.2.1 dJ6_bitCount_0f7a4_0 rfl (lv_at hl 0 rfl) ?_
  refine lv_iload_n F.1.1 F.1.2.1 dJ6_bitCount_0f7a4_1 rfl (lv_at hl 0 rfl) ?_
  refine lv_iconst (v := (1 : Int32)) F.1.1 F.1.2.1 dJ6_bitCount_0f7a4_2 (by decide) ?_
  refine lv_iushr F.1.1 F.1.2.1 dJ6_bitCount_0f7a4_3 rfl ?_
  refine lv_ldcw (v := (1431655765 : Int32)) F.1.1 F.1.2.1 F.1.2.2.2.1 (F.1.2.2.2.2 _ kJ6_bitCount_0f7a4_265) dJ6_bitCount_0f7a4_4 ?_
  refine lv_iand F.1.1 F.1.2.1 dJ6_bitCount_0f7a4_7 ?_
  refine lv_isub F.1.1 F.1.2.1 dJ6_bitCount_0f7a4_8 ?_
  refine top_i hf (fun y_1 hf => ?_)
  refine lv_istore_n (lv' := [(0, .int y_1)]) F.1.1 F.1.2.1 dJ6_bitCount_0f7a4_9 rfl hl (by decide) rfl (fun ls hl => ?_)
  refine lv_iload_n F.1.1 F.1.2.1 dJ6_bitCount_0f7a4_10 rfl (lv_at hl 0 rfl) ?_
  refine lv_ldcw (v := (858993459 : Int32)) F.1.1 F.1.2.1 F.1.2.2.2.1 (F.1.2.2.2.2 _ kJ6_bitCount_0f7a4_266) dJ6_bitCount_0f7a4_11 ?_
  refine lv_iand F.1.1 F.1.2.1 dJ6_bitCount_0f7a4_14 ?_
  refine lv_iload_n F.1.1 F.1.2.1 dJ6_bitCount_0f7a4_15 rfl (lv_at hl 0 rfl) ?_
  refine lv_iconst (v := (2 : Int32)) F.1.1 F.1.2.1 dJ6_bitCount_0f7a4_16 (by decide) ?_
  refine lv_iushr F.1.1 F.1.2.1 dJ6_bitCount_0f7a4_17 rfl ?_
  refine lv_ldcw (v := (858993459 : Int32)) F.1.1 F.1.2.1 F.1.2.2.2.1 (F.1.2.2.2.2 _ kJ6_bitCount_0f7a4_266) dJ6_bitCount_0f7a4_18 ?_
  refine lv_iand F.1.1 F.1.2.1 dJ6_bitCount_0f7a4_21 ?_
  refine lv_iadd F.1.1 F.1.2.1 dJ6_bitCount_0f7a4_22 ?_
  refine top_i hf (fun y_2 hf => ?_)
  refine lv_istore_n (lv' := [(0, .int y_2)]) F.1.1 F.1.2.1 dJ6_bitCount_0f7a4_23 rfl hl (by decide) rfl (fun ls hl => ?_)
  refine lv_iload_n F.1.1 F.1.2.1 dJ6_bitCount_0f7a4_24 rfl (lv_at hl 0 rfl) ?_
  refine lv_iload_n F.1.1 F.1.2.1 dJ6_bitCount_0f7a4_25 rfl (lv_at hl 0 rfl) ?_
  refine lv_iconst (v := (4 : Int32)) F.1.1 F.1.2.1 dJ6_bitCount_0f7a4_26 (by decide) ?_
  refine lv_iushr F.1.1 F.1.2.1 dJ6_bitCount_0f7a4_27 rfl ?_
  refine lv_iadd F.1.1 F.1.2.1 dJ6_bitCount_0f7a4_28 ?_
  refine lv_ldcw (v := (252645135 : Int32)) F.1.1 F.1.2.1 F.1.2.2.2.1 (F.1.2.2.2.2 _ kJ6_bitCount_0f7a4_267) dJ6_bitCount_0f7a4_29 ?_
  refine lv_iand F.1.1 F.1.2.1 dJ6_bitCount_0f7a4_32 ?_
  refine top_i hf (fun y_3 hf => ?_)
  refine lv_istore_n (lv' := [(0, .int y_3)]) F.1.1 F.1.2.1 dJ6_bitCount_0f7a4_33 rfl hl (by decide) rfl (fun ls hl => ?_)
  refine lv_iload_n F.1.1 F.1.2.1 dJ6_bitCount_0f7a4_34 rfl (lv_at hl 0 rfl) ?_
  refine lv_iload_n F.1.1 F.1.2.1 dJ6_bitCount_0f7a4_35 rfl (lv_at hl 0 rfl) ?_
  refine lv_bipush (v := (8 : Int32)) F.1.1 F.1.2.1 dJ6_bitCount_0f7a4_36 (by decide) ?_
  refine lv_iushr F.1.1 F.1.2.1 dJ6_bitCount_0f7a4_38 rfl ?_
  refine lv_iadd F.1.1 F.1.2.1 dJ6_bitCount_0f7a4_39 ?_
  refine top_i hf (fun y_4 hf => ?_)
  refine lv_istore_n (lv' := [(0, .int y_4)]) F.1.1 F.1.2.1 dJ6_bitCount_0f7a4_40 rfl hl (by decide) rfl (fun ls hl => ?_)
  refine lv_iload_n F.1.1 F.1.2.1 dJ6_bitCount_0f7a4_41 rfl (lv_at hl 0 rfl) ?_
  refine lv_iload_n F.1.1 F.1.2.1 dJ6_bitCount_0f7a4_42 rfl (lv_at hl 0 rfl) ?_
  refine lv_bipush (v := (16 : Int32)) F.1.1 F.1.2.1 dJ6_bitCount_0f7a4_43 (by decide) ?_
  refine lv_iushr F.1.1 F.1.2.1 dJ6_bitCount_0f7a4_45 rfl ?_
  refine lv_iadd F.1.1 F.1.2.1 dJ6_bitCount_0f7a4_46 ?_
  refine top_i hf (fun y_5 hf => ?_)
  refine lv_istore_n (lv' := [(0, .int y_5)]) F.1.1 F.1.2.1 dJ6_bitCount_0f7a4_47 rfl hl (by decide) rfl (fun ls hl => ?_)
  refine lv_iload_n F.1.1 F.1.2.1 dJ6_bitCount_0f7a4_48 rfl (lv_at hl 0 rfl) ?_
  refine lv_bipush (v := (63 : Int32)) F.1.1 F.1.2.1 dJ6_bitCount_0f7a4_49 (by decide) ?_
  refine lv_iand F.1.1 F.1.2.1 dJ6_bitCount_0f7a4_51 ?_
  exact retI F hP hS dJ6_bitCount_0f7a4_52 hf
abbrev rmX5_without : Room := { frames := 4, cells := 0, slots := 0, locals := 90 }
theorem hdX5_without : yX5_without.cls = RX5 ∧ yX5_without.cls ≠ "java/lang/invoke/MethodHandle" ∧ yX5_without.cls ≠ "java/lang/invoke/VarHandle" ∧ (parseMethodDescriptor yX5_without.desc).map (fun d => d.parameters.length) = some 1 := by decide +kernel
theorem kX5_without_12 : Cond.fieldLink RX5 12 "PaperLayers" "now" "LPaperLayers$Wall;" ∈ wsX5_without := List.mem_cons_of_mem _ (List.mem_append_left _ (List.mem_append_left _ (List.mem_append_left _ (List.mem_append_left _ (List.mem_of_getElem? (i := 0) rfl)))))
theorem kX5_without_18 : Cond.fieldLink RX5 18 "PaperLayers" "trial" "LPaperLayers$Wall;" ∈ wsX5_without := List.mem_cons_of_mem _ (List.mem_append_left _ (List.mem_append_left _ (List.mem_append_left _ (List.mem_append_left _ (List.mem_of_getElem? (i := 2) rfl)))))
theorem kX5_without_76 : Cond.fieldLink RX5 76 "PaperLayers$Wall" "count" "I" ∈ wsX5_without := List.mem_cons_of_mem _ (List.mem_append_left _ (List.mem_append_left _ (List.mem_append_left _ (List.mem_append_left _ (List.mem_of_getElem? (i := 1) rfl)))))
theorem inX5_without_4 : ∀ w ∈ wsX40, w ∈ wsX5_without := fun _ h => List.mem_cons_of_mem _ (List.mem_append_left _ (List.mem_append_right _ (h)))
theorem inX5_without_5 : ∀ w ∈ wsX50, w ∈ wsX5_without := fun _ h => List.mem_cons_of_mem _ (List.mem_append_left _ (List.mem_append_left _ (List.mem_append_right _ (h))))
set_option maxHeartbeats 4000000 in
set_option maxRecDepth 100000 in
theorem lX5_without_L30 (l : Launch) (G : GT) {p : Program} {e : Env} {s : State} {m : MethodId} {args : Array Value} {below : List Frame} {meth : Method} {c : Code} (F : Fx p s m args meth c cX5_without 4 wsX5_without RX5 (some .int) G) (x1 : Int32) (r : Int32) (μ' : Mem) : ∀ (fuel : Nat), ∀ (x2 : Int32) (x3 : Int32) (μ : Mem) (H : Heap) (locs : List Loc) (ls : Array Slot), Hh G μ H → va_S (gA G) s.heap H locs → lv_has ls 4 [(0, .ref (ga G 0)), (1, .int x1), (2, .int x2), (3, .int x3)] → fX5_without_L30 x1 fuel x2 x3 μ = some (r, μ') → W p l e rmX5_without s m args below meth c H locs 0 0 (MQ below (Qg G (some (.int r)) μ') args s 0 0 (gA G)) (F0 m 30 ls []) := by
  intro fuel
  induction fuel with
  | zero =>
    intro x2 x3 μ H locs ls hP hS hl hf
    exact absurd hf (by intro h; cases h)
  | succ fuel ih30 =>
    intro x2 x3 μ H locs ls hP hS hl hf
    have hf : sX5_without_L30 (fX5_without_L30 x1 fuel) x1 x2 x3 μ = some (r, μ') := hf
    unfold sX5_without_L30 at hf
    refine lv_iload_n F.1.1 F.1.2.1 dX5_without_30 rfl (lv_at hl 3 rfl) ?_
    refine lv_iconst (v := (1 : Int32)) F.1.1 F.1.2.1 dX5_without_31 (by decide) ?_
    refine lv_aload_n F.1.1 F.1.2.1 dX5_without_32 rfl (lv_at hl 0 rfl) ?_
    refine gt_5_0 F hP 0 rfl inX5_without_5 kX5_without_12 dX5_without_33 ?_
    refine gt_4_1 F hP 1 rfl inX5_without_4 kX5_without_76 dX5_without_36 ?_
    refine lv_ishl F.1.1 F.1.2.1 dX5_without_39 ?_
    refine jc_ge (tgt := 98) F dX5_without_40 (by decide) hf (fun hf => ?_) (fun hf => ?_)
    · refine lv_iload_n F.1.1 F.1.2.1 dX5_without_98 rfl (lv_at hl 2 rfl) ?_
      exact retI F hP hS dX5_without_99 hf
    · refine lv_iload_n F.1.1 F.1.2.1 dX5_without_43 rfl (lv_at hl 2 rfl) ?_
      refine lv_bipush (v := (-9 : Int32)) F.1.1 F.1.2.1 dX5_without_44 (by decide) ?_
      refine jc_eq (tgt := 60) F dX5_without_46 (by decide) hf (fun hf => ?_) (fun hf => ?_)
      · refine lv_aload_n F.1.1 F.1.2.1 dX5_without_60 rfl (lv_at hl 0 rfl) ?_
        refine gt_5_1 F hP 0 rfl inX5_without_5 kX5_without_18 dX5_without_61 ?_
        refine lv_aload_n F.1.1 F.1.2.1 dX5_without_64 rfl (lv_at hl 0 rfl) ?_
        refine gt_5_0 F hP 0 rfl inX5_without_5 kX5_without_12 dX5_without_65 ?_
        refine lv_iload_n F.1.1 F.1.2.1 dX5_without_68 rfl (lv_at hl 3 rfl) ?_
        obtain ⟨u_9, μ_7, hc_8, hf⟩ := bnd_some hf
        refine rVv (R := rmX5_without) (As := [.ref (ga G 1), .int x3]) (rest := []) F hP hS hl (mX4_becomeLess l G F.2.2.2.2 9 rfl 1 rfl x3 _ _ _ hc_8) gX5_without_X4_becomeLess rfl hdX4_becomeLess rfl rfl rfl ⟨Nat.le_of_ble_eq_true rfl, Nat.le_of_ble_eq_true rfl⟩ (by decide) rfl rfl rfl (Nat.le_of_ble_eq_true rfl) ⟨Nat.le_of_ble_eq_true rfl, Nat.le_of_ble_eq_true rfl⟩ dX5_without_69 (fun H locs hP hS => ?_)
        refine lv_aload_n F.1.1 F.1.2.1 dX5_without_72 rfl (lv_at hl 0 rfl) ?_
        refine gt_5_1 F hP 0 rfl inX5_without_5 kX5_without_18 dX5_without_73 ?_
        refine lv_aload_n F.1.1 F.1.2.1 dX5_without_76 rfl (lv_at hl 0 rfl) ?_
        refine gt_5_1 F hP 0 rfl inX5_without_5 kX5_without_18 dX5_without_77 ?_
        obtain ⟨r_12, μ_10, hc_11, hf⟩ := bnd_some hf
        refine rV1 (R := rmX5_without) (As := []) (rest := [.ref (ga G 9)]) F hP hS hl (mX4_warmth l G F.2.2.2.2 9 rfl _ _ _ hc_11) gX5_without_X4_warmth rfl hdX4_warmth rfl rfl rfl ⟨Nat.le_of_ble_eq_true rfl, Nat.le_of_ble_eq_true rfl⟩ (by decide) rfl rfl rfl (Nat.le_of_ble_eq_true rfl) ⟨Nat.le_of_ble_eq_true rfl, Nat.le_of_ble_eq_true rfl⟩ dX5_without_80 (fun H locs hP hS => ?_)
        obtain ⟨r_15, μ_13, hc_14, hf⟩ := bnd_some hf
        refine rV1 (R := rmX5_without) (As := [.int r_12]) (rest := []) F hP hS hl (mX4_counselBy l G F.2.2.2.2 9 rfl r_12 _ _ _ hc_14) gX5_without_X4_counselBy rfl hdX4_counselBy rfl rfl rfl ⟨Nat.le_of_ble_eq_true rfl, Nat.le_of_ble_eq_true rfl⟩ (by decide) rfl rfl rfl (Nat.le_of_ble_eq_true rfl) ⟨Nat.le_of_ble_eq_true rfl, Nat.le_of_ble_eq_true rfl⟩ dX5_without_83 (fun H locs hP hS => ?_)
        refine lv_iload_n F.1.1 F.1.2.1 dX5_without_86 rfl (lv_at hl 1 rfl) ?_
        refine jc_ne (tgt := 92) F dX5_without_87 (by decide) hf (fun hf => ?_) (fun hf => ?_)
        · refine top_n hf (fun y_16 ey_16 hf => ?_)
          refine lv_iinc (v := y_16) (lv' := [(3, .int y_16), (0, .ref (ga G 0)), (1, .int x1), (2, .int x2)]) F.1.1 F.1.2.1 dX5_without_92 hl (k := 3) rfl ey_16 (by decide) rfl (fun ls hl => ?_)
          refine lv_goto (tgt := 30) F.1.1 F.1.2.1 dX5_without_95 (by decide) ?_
          exact ih30 x2 y_16 μ_13 H locs ls hP hS (lv_sub hl [1, 2, 3, 0] rfl) hf
        · refine lv_iload_n F.1.1 F.1.2.1 dX5_without_90 rfl (lv_at hl 3 rfl) ?_
          refine lv_istore_n (lv' := [(2, .int x3), (0, .ref (ga G 0)), (1, .int x1), (3, .int x3)]) F.1.1 F.1.2.1 dX5_without_91 rfl hl (by decide) rfl (fun ls hl => ?_)
          refine top_n hf (fun y_17 ey_17 hf => ?_)
          refine lv_iinc (v := y_17) (lv' := [(3, .int y_17), (2, .int x3), (0, .ref (ga G 0)), (1, .int x1)]) F.1.1 F.1.2.1 dX5_without_92 hl (k := 3) rfl ey_17 (by decide) rfl (fun ls hl => ?_)
          refine lv_goto (tgt := 30) F.1.1 F.1.2.1 dX5_without_95 (by decide) ?_
          exact ih30 x3 y_17 μ_13 H locs ls hP hS (lv_sub hl [2, 3, 1, 0] rfl) hf
      · refine lv_iload_n F.1.1 F.1.2.1 dX5_without_49 rfl (lv_at hl 3 rfl) ?_
        obtain ⟨r_20, μ_18, hc_19, hf⟩ := bnd_some hf
        refine rS1 (R := rmX5_without) (As := [.int x3]) (rest := []) F hP hS hl (mJ6_bitCount_0f7a4 l G F.2.2.2.2 x3 _ _ _ hc_19) gX5_without_J6_bitCount_0f7a4 hdJ6_bitCount_0f7a4 rfl rfl rfl ⟨Nat.le_of_ble_eq_true rfl, Nat.le_of_ble_eq_true rfl⟩ rfl rfl (Nat.le_of_ble_eq_true rfl) ⟨Nat.le_of_ble_eq_true rfl, Nat.le_of_ble_eq_true rfl⟩ dX5_without_50 (fun H locs hP hS => ?_)
        refine lv_iload_n F.1.1 F.1.2.1 dX5_without_53 rfl (lv_at hl 2 rfl) ?_
        obtain ⟨r_23, μ_21, hc_22, hf⟩ := bnd_some hf
        refine rS1 (R := rmX5_without) (As := [.int x2]) (rest := [.int r_20]) F hP hS hl (mJ6_bitCount_0f7a4 l G F.2.2.2.2 x2 _ _ _ hc_22) gX5_without_J6_bitCount_0f7a4 hdJ6_bitCount_0f7a4 rfl rfl rfl ⟨Nat.le_of_ble_eq_true rfl, Nat.le_of_ble_eq_true rfl⟩ rfl rfl (Nat.le_of_ble_eq_true rfl) ⟨Nat.le_of_ble_eq_true rfl, Nat.le_of_ble_eq_true rfl⟩ dX5_without_54 (fun H locs hP hS => ?_)
        refine jc_ge (tgt := 92) F dX5_without_57 (by decide) hf (fun hf => ?_) (fun hf => ?_)
        · refine top_n hf (fun y_24 ey_24 hf => ?_)
          refine lv_iinc (v := y_24) (lv' := [(3, .int y_24), (0, .ref (ga G 0)), (1, .int x1), (2, .int x2)]) F.1.1 F.1.2.1 dX5_without_92 hl (k := 3) rfl ey_24 (by decide) rfl (fun ls hl => ?_)
          refine lv_goto (tgt := 30) F.1.1 F.1.2.1 dX5_without_95 (by decide) ?_
          exact ih30 x2 y_24 μ_21 H locs ls hP hS (lv_sub hl [1, 2, 3, 0] rfl) hf
        · refine lv_aload_n F.1.1 F.1.2.1 dX5_without_60 rfl (lv_at hl 0 rfl) ?_
          refine gt_5_1 F hP 0 rfl inX5_without_5 kX5_without_18 dX5_without_61 ?_
          refine lv_aload_n F.1.1 F.1.2.1 dX5_without_64 rfl (lv_at hl 0 rfl) ?_
          refine gt_5_0 F hP 0 rfl inX5_without_5 kX5_without_12 dX5_without_65 ?_
          refine lv_iload_n F.1.1 F.1.2.1 dX5_without_68 rfl (lv_at hl 3 rfl) ?_
          obtain ⟨u_27, μ_25, hc_26, hf⟩ := bnd_some hf
          refine rVv (R := rmX5_without) (As := [.ref (ga G 1), .int x3]) (rest := []) F hP hS hl (mX4_becomeLess l G F.2.2.2.2 9 rfl 1 rfl x3 _ _ _ hc_26) gX5_without_X4_becomeLess rfl hdX4_becomeLess rfl rfl rfl ⟨Nat.le_of_ble_eq_true rfl, Nat.le_of_ble_eq_true rfl⟩ (by decide) rfl rfl rfl (Nat.le_of_ble_eq_true rfl) ⟨Nat.le_of_ble_eq_true rfl, Nat.le_of_ble_eq_true rfl⟩ dX5_without_69 (fun H locs hP hS => ?_)
          refine lv_aload_n F.1.1 F.1.2.1 dX5_without_72 rfl (lv_at hl 0 rfl) ?_
          refine gt_5_1 F hP 0 rfl inX5_without_5 kX5_without_18 dX5_without_73 ?_
          refine lv_aload_n F.1.1 F.1.2.1 dX5_without_76 rfl (lv_at hl 0 rfl) ?_
          refine gt_5_1 F hP 0 rfl inX5_without_5 kX5_without_18 dX5_without_77 ?_
          obtain ⟨r_30, μ_28, hc_29, hf⟩ := bnd_some hf
          refine rV1 (R := rmX5_without) (As := []) (rest := [.ref (ga G 9)]) F hP hS hl (mX4_warmth l G F.2.2.2.2 9 rfl _ _ _ hc_29) gX5_without_X4_warmth rfl hdX4_warmth rfl rfl rfl ⟨Nat.le_of_ble_eq_true rfl, Nat.le_of_ble_eq_true rfl⟩ (by decide) rfl rfl rfl (Nat.le_of_ble_eq_true rfl) ⟨Nat.le_of_ble_eq_true rfl, Nat.le_of_ble_eq_true rfl⟩ dX5_without_80 (fun H locs hP hS => ?_)
          obtain ⟨r_33, μ_31, hc_32, hf⟩ := bnd_some hf
          refine rV1 (R := rmX5_without) (As := [.int r_30]) (rest := []) F hP hS hl (mX4_counselBy l G F.2.2.2.2 9 rfl r_30 _ _ _ hc_32) gX5_without_X4_counselBy rfl hdX4_counselBy rfl rfl rfl ⟨Nat.le_of_ble_eq_true rfl, Nat.le_of_ble_eq_true rfl⟩ (by decide) rfl rfl rfl (Nat.le_of_ble_eq_true rfl) ⟨Nat.le_of_ble_eq_true rfl, Nat.le_of_ble_eq_true rfl⟩ dX5_without_83 (fun H locs hP hS => ?_)
          refine lv_iload_n F.1.1 F.1.2.1 dX5_without_86 rfl (lv_at hl 1 rfl) ?_
          refine jc_ne (tgt := 92) F dX5_without_87 (by decide) hf (fun hf => ?_) (fun hf => ?_)
          · refine top_n hf (fun y_34 ey_34 hf => ?_)
            refine lv_iinc (v := y_34) (lv' := [(3, .int y_34), (0, .ref (ga G 0)), (1, .int x1), (2, .int x2)]) F.1.1 F.1.2.1 dX5_without_92 hl (k := 3) rfl ey_34 (by decide) rfl (fun ls hl => ?_)
            refine lv_goto (tgt := 30) F.1.1 F.1.2.1 dX5_without_95 (by decide) ?_
            exact ih30 x2 y_34 μ_31 H locs ls hP hS (lv_sub hl [1, 2, 3, 0] rfl) hf
          · refine lv_iload_n F.1.1 F.1.2.1 dX5_without_90 rfl (lv_at hl 3 rfl) ?_
            refine lv_istore_n (lv' := [(2, .int x3), (0, .ref (ga G 0)), (1, .int x1), (3, .int x3)]) F.1.1 F.1.2.1 dX5_without_91 rfl hl (by decide) rfl (fun ls hl => ?_)
            refine top_n hf (fun y_35 ey_35 hf => ?_)
            refine lv_iinc (v := y_35) (lv' := [(3, .int y_35), (2, .int x3), (0, .ref (ga G 0)), (1, .int x1)]) F.1.1 F.1.2.1 dX5_without_92 hl (k := 3) rfl ey_35 (by decide) rfl (fun ls hl => ?_)
            refine lv_goto (tgt := 30) F.1.1 F.1.2.1 dX5_without_95 (by decide) ?_
            exact ih30 x3 y_35 μ_31 H locs ls hP hS (lv_sub hl [2, 3, 1, 0] rfl) hf
set_option maxHeartbeats 4000000 in
set_option maxRecDepth 100000 in
theorem mX5_without (l : Launch) (G : GT) (hG : GD G) (x1 : Int32) (μ : Mem) (r : Int32) (μ' : Mem) (hf : fX5_without x1 μ = some (r, μ')) : Ct l yX5_without wsX5_without rmX5_without G [.ref (ga G 0), .int x1] μ (some (.int r)) μ' := by
  refine Ct.of (cc := cX5_without) (maxL := 4) (ret := (some .int)) (own := RX5) hG (by decide) rfl rfl (Nat.le_of_ble_eq_true rfl) ?_
  intro p e s m args below meth c ls H locs F hl hP hS
  have hl : lv_has ls 4 [(0, .ref (ga G 0)), (1, .int x1)] := hl
  unfold fX5_without at hf
  refine lv_iload_n F.1.1 F.1.2.1 dX5_without_0 rfl (lv_at hl 1 rfl) ?_
  refine lv_bipush (v := (9 : Int32)) F.1.1 F.1.2.1 dX5_without_1 (by decide) ?_
  obtain ⟨r_3, μ_1, hc_2, hf⟩ := bnd_some hf
  refine rS1 (R := rmX5_without) (As := [.int x1, .int (9 : Int32)]) (rest := []) F hP hS hl (mX5_isUpTo l G F.2.2.2.2 x1 (9 : Int32) _ _ _ hc_2) gX5_without_X5_isUpTo hdX5_isUpTo rfl rfl rfl ⟨Nat.le_of_ble_eq_true rfl, Nat.le_of_ble_eq_true rfl⟩ rfl rfl (Nat.le_of_ble_eq_true rfl) ⟨Nat.le_of_ble_eq_true rfl, Nat.le_of_ble_eq_true rfl⟩ dX5_without_3 (fun H locs hP hS => ?_)
  refine jz_ne (tgt := 12) F dX5_without_6 (by decide) hf (fun hf => ?_) (fun hf => ?_)
  · refine lv_aload_n F.1.1 F.1.2.1 dX5_without_12 rfl (lv_at hl 0 rfl) ?_
    refine gt_5_0 F hP 0 rfl inX5_without_5 kX5_without_12 dX5_without_13 ?_
    obtain ⟨r_6, μ_4, hc_5, hf⟩ := bnd_some hf
    refine rV1 (R := rmX5_without) (As := []) (rest := []) F hP hS hl (mX4_stands l G F.2.2.2.2 1 rfl _ _ _ hc_5) gX5_without_X4_stands rfl hdX4_stands rfl rfl rfl ⟨Nat.le_of_ble_eq_true rfl, Nat.le_of_ble_eq_true rfl⟩ (by decide) rfl rfl rfl (Nat.le_of_ble_eq_true rfl) ⟨Nat.le_of_ble_eq_true rfl, Nat.le_of_ble_eq_true rfl⟩ dX5_without_16 (fun H locs hP hS => ?_)
    refine jz_ne (tgt := 25) F dX5_without_19 (by decide) hf (fun hf => ?_) (fun hf => ?_)
    · refine lv_bipush (v := (-9 : Int32)) F.1.1 F.1.2.1 dX5_without_25 (by decide) ?_
      refine lv_istore_n (lv' := [(2, .int (-9 : Int32)), (0, .ref (ga G 0)), (1, .int x1)]) F.1.1 F.1.2.1 dX5_without_27 rfl hl (by decide) rfl (fun ls hl => ?_)
      refine lv_iconst (v := (0 : Int32)) F.1.1 F.1.2.1 dX5_without_28 (by decide) ?_
      refine lv_istore_n (lv' := [(3, .int (0 : Int32)), (2, .int (-9 : Int32)), (0, .ref (ga G 0)), (1, .int x1)]) F.1.1 F.1.2.1 dX5_without_29 rfl hl (by decide) rfl (fun ls hl => ?_)
      exact lX5_without_L30 l G F x1 _ _ FU (-9 : Int32) (0 : Int32) μ_4 H locs ls hP hS (lv_sub hl [2, 3, 1, 0] rfl) hf
    · refine lv_bipush (v := (-3 : Int32)) F.1.1 F.1.2.1 dX5_without_22 (by decide) ?_
      exact retI F hP hS dX5_without_24 hf
  · refine lv_bipush (v := (-2 : Int32)) F.1.1 F.1.2.1 dX5_without_9 (by decide) ?_
    exact retI F hP hS dX5_without_11 hf
