section LAW
theorem r_sld {p : Program} {l : Launch} {e : Env} {R : Room} {s : State} {m : MethodId} {args : Array Value} {below : List Frame} {meth : Method} {c : Code} {H : Heap} {locs : List Loc} {cells slots : Nat} {Q : State → Prop} {cc : ByteArray} {pc : Nat} {ls : Array Slot} {rest : List Value} {nL : Nat} {Ts : List Cond} {own : String} {rt : Option FieldType} {G : GT} {α : Type} {r : α} {x : Int32} {K : Option α} {b L : Nat} {xs : Nat → Int32}
    (F : Fx p s m args meth c cc nL Ts own rt G) (hX : va_X b L xs s s.heap) (hbl : b < s.heap.size) (hbA : ¬ gA G b) (hS : va_S (gA G) s.heap H locs) (hdg : decode cc pc = .ok (.iaload, 1)) (hf : (if inb x L then K else none) = some r)
    (kk : K = some r → W p l e R s m args below meth c H locs cells slots Q (F0 m (pc + 1) ls (.int (xs x.toNatClampNeg) :: rest))) : W p l e R s m args below meth c H locs cells slots Q (F0 m pc ls (.int x :: .ref b :: rest)) :=
  va_sld F.1.1 F.1.2.1 hX hbl hbA hS (inb_in (ifs hf).1) hdg (kk (ifs hf).2)
theorem law_no {μ μ' : Mem} : ¬ (some ((0 : Int32), μ) = some ((1 : Int32), μ')) := by
  intro h
  injection h with h
  injection h with h _
  exact absurd h (by decide)
theorem retLaw {p : Program} {l : Launch} {e : Env} {s : State} {m : MethodId} {below : List Frame} {meth : Method} {c : Code} {H : Heap} {locs : List Loc} {pc : Nat} {ls : Array Slot} {G : GT} {b C S : Nat} {hGA : Prop}
    (F : Fx p s m #[Value.ref b] meth c cL_law 4 wsL_law RL ret G ∧ ∀ q, gA G q → s.heap.size ≤ q) (hS : va_S (gA G) s.heap H locs) (hcs : C ≤ room_1.cells ∧ S ≤ room_1.slots) (hdg : decode cL_law pc = .ok (.ireturn, 1)) : W p l e room_1 s m #[Value.ref b] below meth c H locs C S (lw_Z below #[Value.ref b] s) (F0 m pc ls [.int 1]) := by
  refine va_forget (fun q hq => F.2 _ (hS.2.2 q hq)) ?_
  refine W.widen (k := 600000) (n := 7302250) hcs.1 hcs.2 ?_
  exact lw_ret F.1.1.1 F.1.1.2.1 F.1.2.1 F.1.2.2.1 hdg
set_option maxHeartbeats 4000000 in
set_option maxRecDepth 100000 in
theorem tL_0 (l : Launch) (G : GT) {p : Program} {e : Env} {s : State} {m : MethodId} {below : List Frame} {meth : Method} {c : Code} {b L : Nat} {xs : Nat → Int32} {C S : Nat} {μ' : Mem} (F : Fx p s m #[Value.ref b] meth c cL_law 4 wsL_law RL ret G) (hX : va_X b L xs s s.heap) (hbl : b < s.heap.size) (hbA : ¬ gA G b) (hcs : C ≤ room_1.cells ∧ S ≤ room_1.slots) (K18 : Int32 → Mem → Option (Int32 × Mem)) (ih18 : ∀ (x3 : Int32) (μ : Mem) (H : Heap) (locs : List Loc) (ls : Array Slot), Hh G μ H → va_S (gA G) s.heap H locs → lv_has ls 4 [(0, .ref b), (1, .ref (ga G 0)), (2, .ref (ga G 31)), (3, .int x3)] → K18 x3 μ = some (1, μ') → W p l e room_1 s m #[Value.ref b] below meth c H locs C S (lw_Z below #[Value.ref b] s) (F0 m 18 ls [])) (x3 : Int32) (μ : Mem) (H : Heap) (locs : List Loc) (ls : Array Slot) (hP : Hh G μ H) (hS : va_S (gA G) s.heap H locs) (hl : lv_has ls 4 [(0, .ref b), (1, .ref (ga G 0)), (2, .ref (ga G 31)), (3, .int x3)]) (hf : cL_0 xs L K18 x3 μ = some (1, μ')) : W p l e room_1 s m #[Value.ref b] below meth c H locs C S (lw_Z below #[Value.ref b] s) (F0 m 176 ls []) := by
  unfold cL_0 at hf
  refine lv_aload_n F.1.1 F.1.2.1 dL_law_176 rfl (lv_at hl 1 rfl) ?_
  refine lv_aload_n F.1.1 F.1.2.1 dL_law_177 rfl (lv_at hl 0 rfl) ?_
  refine lv_iload_n F.1.1 F.1.2.1 dL_law_178 rfl (lv_at hl 3 rfl) ?_
  refine lv_iconst (v := (1 : Int32)) F.1.1 F.1.2.1 dL_law_179 (by decide) ?_
  refine lv_iadd F.1.1 F.1.2.1 dL_law_180 ?_
  refine r_sld F hX hbl hbA hS dL_law_181 hf (fun hf => ?_)
  refine lv_aload_n F.1.1 F.1.2.1 dL_law_182 rfl (lv_at hl 0 rfl) ?_
  refine lv_iload_n F.1.1 F.1.2.1 dL_law_183 rfl (lv_at hl 3 rfl) ?_
  refine lv_iconst (v := (2 : Int32)) F.1.1 F.1.2.1 dL_law_184 (by decide) ?_
  refine lv_iadd F.1.1 F.1.2.1 dL_law_185 ?_
  refine r_sld F hX hbl hbA hS dL_law_186 hf (fun hf => ?_)
  refine lv_aload_n F.1.1 F.1.2.1 dL_law_187 rfl (lv_at hl 0 rfl) ?_
  refine lv_iload_n F.1.1 F.1.2.1 dL_law_188 rfl (lv_at hl 3 rfl) ?_
  refine lv_iconst (v := (3 : Int32)) F.1.1 F.1.2.1 dL_law_189 (by decide) ?_
  refine lv_iadd F.1.1 F.1.2.1 dL_law_190 ?_
  refine r_sld F hX hbl hbA hS dL_law_191 hf (fun hf => ?_)
  refine lv_aload_n F.1.1 F.1.2.1 dL_law_192 rfl (lv_at hl 0 rfl) ?_
  refine lv_iload_n F.1.1 F.1.2.1 dL_law_193 rfl (lv_at hl 3 rfl) ?_
  refine lv_iconst (v := (4 : Int32)) F.1.1 F.1.2.1 dL_law_194 (by decide) ?_
  refine lv_iadd F.1.1 F.1.2.1 dL_law_195 ?_
  refine r_sld F hX hbl hbA hS dL_law_196 hf (fun hf => ?_)
  obtain ⟨r_3, μ_1, hc_2, hf⟩ := bnd_some hf
  refine rV1 (R := room_1) (As := [.int (xs ((x3 + (1 : Int32))).toNatClampNeg), .int (xs ((x3 + (2 : Int32))).toNatClampNeg), .int (xs ((x3 + (3 : Int32))).toNatClampNeg), .int (xs ((x3 + (4 : Int32))).toNatClampNeg)]) (rest := []) F hP hS hl (mX5_wall l G F.2.2.2.2 (xs ((x3 + (1 : Int32))).toNatClampNeg) (xs ((x3 + (2 : Int32))).toNatClampNeg) (xs ((x3 + (3 : Int32))).toNatClampNeg) (xs ((x3 + (4 : Int32))).toNatClampNeg) _ _ _ hc_2) gL_law_X5_wall rfl hdX5_wall rfl rfl rfl ⟨Nat.le_of_ble_eq_true rfl, Nat.le_of_ble_eq_true rfl⟩ (by decide) rfl rfl rfl (Nat.le_of_ble_eq_true rfl) hcs dL_law_197 (fun H locs hP hS => ?_)
  refine lv_aload_n F.1.1 F.1.2.1 dL_law_200 rfl (lv_at hl 2 rfl) ?_
  refine lv_aload_n F.1.1 F.1.2.1 dL_law_201 rfl (lv_at hl 0 rfl) ?_
  refine lv_iload_n F.1.1 F.1.2.1 dL_law_202 rfl (lv_at hl 3 rfl) ?_
  refine lv_iconst (v := (1 : Int32)) F.1.1 F.1.2.1 dL_law_203 (by decide) ?_
  refine lv_iadd F.1.1 F.1.2.1 dL_law_204 ?_
  refine r_sld F hX hbl hbA hS dL_law_205 hf (fun hf => ?_)
  refine lv_aload_n F.1.1 F.1.2.1 dL_law_206 rfl (lv_at hl 0 rfl) ?_
  refine lv_iload_n F.1.1 F.1.2.1 dL_law_207 rfl (lv_at hl 3 rfl) ?_
  refine lv_iconst (v := (2 : Int32)) F.1.1 F.1.2.1 dL_law_208 (by decide) ?_
  refine lv_iadd F.1.1 F.1.2.1 dL_law_209 ?_
  refine r_sld F hX hbl hbA hS dL_law_210 hf (fun hf => ?_)
  refine lv_aload_n F.1.1 F.1.2.1 dL_law_211 rfl (lv_at hl 0 rfl) ?_
  refine lv_iload_n F.1.1 F.1.2.1 dL_law_212 rfl (lv_at hl 3 rfl) ?_
  refine lv_iconst (v := (3 : Int32)) F.1.1 F.1.2.1 dL_law_213 (by decide) ?_
  refine lv_iadd F.1.1 F.1.2.1 dL_law_214 ?_
  refine r_sld F hX hbl hbA hS dL_law_215 hf (fun hf => ?_)
  refine lv_aload_n F.1.1 F.1.2.1 dL_law_216 rfl (lv_at hl 0 rfl) ?_
  refine lv_iload_n F.1.1 F.1.2.1 dL_law_217 rfl (lv_at hl 3 rfl) ?_
  refine lv_iconst (v := (4 : Int32)) F.1.1 F.1.2.1 dL_law_218 (by decide) ?_
  refine lv_iadd F.1.1 F.1.2.1 dL_law_219 ?_
  refine r_sld F hX hbl hbA hS dL_law_220 hf (fun hf => ?_)
  obtain ⟨r_6, μ_4, hc_5, hf⟩ := bnd_some hf
  refine rV1 (R := room_1) (As := [.int (xs ((x3 + (1 : Int32))).toNatClampNeg), .int (xs ((x3 + (2 : Int32))).toNatClampNeg), .int (xs ((x3 + (3 : Int32))).toNatClampNeg), .int (xs ((x3 + (4 : Int32))).toNatClampNeg)]) (rest := [.int r_3]) F hP hS hl (mX6_wall l G F.2.2.2.2 (xs ((x3 + (1 : Int32))).toNatClampNeg) (xs ((x3 + (2 : Int32))).toNatClampNeg) (xs ((x3 + (3 : Int32))).toNatClampNeg) (xs ((x3 + (4 : Int32))).toNatClampNeg) _ _ _ hc_5) gL_law_X6_wall rfl hdX6_wall rfl rfl rfl ⟨Nat.le_of_ble_eq_true rfl, Nat.le_of_ble_eq_true rfl⟩ (by decide) rfl rfl rfl (Nat.le_of_ble_eq_true rfl) hcs dL_law_221 (fun H locs hP hS => ?_)
  refine jc_eq (tgt := 1134) F dL_law_224 (by decide) hf (fun hf => ?_) (fun hf => ?_)
  · refine top_n hf (fun y_7 ey_7 hf => ?_)
    refine lv_iinc (v := y_7) (lv' := [(3, .int y_7), (0, .ref b), (1, .ref (ga G 0)), (2, .ref (ga G 31))]) F.1.1 F.1.2.1 dL_law_1134 hl (k := 3) rfl ey_7 (by decide) rfl (fun ls hl => ?_)
    refine lv_goto (tgt := 18) F.1.1 F.1.2.1 dL_law_1137 (by decide) ?_
    exact ih18 y_7 μ_4 H locs ls hP hS (lv_sub hl [1, 2, 3, 0] rfl) hf
  · refine lv_iconst (v := (0 : Int32)) F.1.1 F.1.2.1 dL_law_227 (by decide) ?_
    exact absurd hf law_no
set_option maxHeartbeats 4000000 in
set_option maxRecDepth 100000 in
theorem tL_1 (l : Launch) (G : GT) {p : Program} {e : Env} {s : State} {m : MethodId} {below : List Frame} {meth : Method} {c : Code} {b L : Nat} {xs : Nat → Int32} {C S : Nat} {μ' : Mem} (F : Fx p s m #[Value.ref b] meth c cL_law 4 wsL_law RL ret G) (hX : va_X b L xs s s.heap) (hbl : b < s.heap.size) (hbA : ¬ gA G b) (hcs : C ≤ room_1.cells ∧ S ≤ room_1.slots) (K18 : Int32 → Mem → Option (Int32 × Mem)) (ih18 : ∀ (x3 : Int32) (μ : Mem) (H : Heap) (locs : List Loc) (ls : Array Slot), Hh G μ H → va_S (gA G) s.heap H locs → lv_has ls 4 [(0, .ref b), (1, .ref (ga G 0)), (2, .ref (ga G 31)), (3, .int x3)] → K18 x3 μ = some (1, μ') → W p l e room_1 s m #[Value.ref b] below meth c H locs C S (lw_Z below #[Value.ref b] s) (F0 m 18 ls [])) (x3 : Int32) (μ : Mem) (H : Heap) (locs : List Loc) (ls : Array Slot) (hP : Hh G μ H) (hS : va_S (gA G) s.heap H locs) (hl : lv_has ls 4 [(0, .ref b), (1, .ref (ga G 0)), (2, .ref (ga G 31)), (3, .int x3)]) (hf : cL_1 xs L K18 x3 μ = some (1, μ')) : W p l e room_1 s m #[Value.ref b] below meth c H locs C S (lw_Z below #[Value.ref b] s) (F0 m 229 ls []) := by
  unfold cL_1 at hf
  refine lv_aload_n F.1.1 F.1.2.1 dL_law_229 rfl (lv_at hl 1 rfl) ?_
  refine lv_aload_n F.1.1 F.1.2.1 dL_law_230 rfl (lv_at hl 0 rfl) ?_
  refine lv_iload_n F.1.1 F.1.2.1 dL_law_231 rfl (lv_at hl 3 rfl) ?_
  refine lv_iconst (v := (1 : Int32)) F.1.1 F.1.2.1 dL_law_232 (by decide) ?_
  refine lv_iadd F.1.1 F.1.2.1 dL_law_233 ?_
  refine r_sld F hX hbl hbA hS dL_law_234 hf (fun hf => ?_)
  refine lv_aload_n F.1.1 F.1.2.1 dL_law_235 rfl (lv_at hl 0 rfl) ?_
  refine lv_iload_n F.1.1 F.1.2.1 dL_law_236 rfl (lv_at hl 3 rfl) ?_
  refine lv_iconst (v := (2 : Int32)) F.1.1 F.1.2.1 dL_law_237 (by decide) ?_
  refine lv_iadd F.1.1 F.1.2.1 dL_law_238 ?_
  refine r_sld F hX hbl hbA hS dL_law_239 hf (fun hf => ?_)
  obtain ⟨r_10, μ_8, hc_9, hf⟩ := bnd_some hf
  refine rV1 (R := room_1) (As := [.int (xs ((x3 + (1 : Int32))).toNatClampNeg), .int (xs ((x3 + (2 : Int32))).toNatClampNeg)]) (rest := []) F hP hS hl (mX5_ofLayer l G F.2.2.2.2 (xs ((x3 + (1 : Int32))).toNatClampNeg) (xs ((x3 + (2 : Int32))).toNatClampNeg) _ _ _ hc_9) gL_law_X5_ofLayer rfl hdX5_ofLayer rfl rfl rfl ⟨Nat.le_of_ble_eq_true rfl, Nat.le_of_ble_eq_true rfl⟩ (by decide) rfl rfl rfl (Nat.le_of_ble_eq_true rfl) hcs dL_law_240 (fun H locs hP hS => ?_)
  refine lv_aload_n F.1.1 F.1.2.1 dL_law_243 rfl (lv_at hl 2 rfl) ?_
  refine lv_aload_n F.1.1 F.1.2.1 dL_law_244 rfl (lv_at hl 0 rfl) ?_
  refine lv_iload_n F.1.1 F.1.2.1 dL_law_245 rfl (lv_at hl 3 rfl) ?_
  refine lv_iconst (v := (1 : Int32)) F.1.1 F.1.2.1 dL_law_246 (by decide) ?_
  refine lv_iadd F.1.1 F.1.2.1 dL_law_247 ?_
  refine r_sld F hX hbl hbA hS dL_law_248 hf (fun hf => ?_)
  refine lv_aload_n F.1.1 F.1.2.1 dL_law_249 rfl (lv_at hl 0 rfl) ?_
  refine lv_iload_n F.1.1 F.1.2.1 dL_law_250 rfl (lv_at hl 3 rfl) ?_
  refine lv_iconst (v := (2 : Int32)) F.1.1 F.1.2.1 dL_law_251 (by decide) ?_
  refine lv_iadd F.1.1 F.1.2.1 dL_law_252 ?_
  refine r_sld F hX hbl hbA hS dL_law_253 hf (fun hf => ?_)
  obtain ⟨r_13, μ_11, hc_12, hf⟩ := bnd_some hf
  refine rV1 (R := room_1) (As := [.int (xs ((x3 + (1 : Int32))).toNatClampNeg), .int (xs ((x3 + (2 : Int32))).toNatClampNeg)]) (rest := [.int r_10]) F hP hS hl (mX6_ofLayer l G F.2.2.2.2 (xs ((x3 + (1 : Int32))).toNatClampNeg) (xs ((x3 + (2 : Int32))).toNatClampNeg) _ _ _ hc_12) gL_law_X6_ofLayer rfl hdX6_ofLayer rfl rfl rfl ⟨Nat.le_of_ble_eq_true rfl, Nat.le_of_ble_eq_true rfl⟩ (by decide) rfl rfl rfl (Nat.le_of_ble_eq_true rfl) hcs dL_law_254 (fun H locs hP hS => ?_)
  refine jc_eq (tgt := 1134) F dL_law_257 (by decide) hf (fun hf => ?_) (fun hf => ?_)
  · refine top_n hf (fun y_14 ey_14 hf => ?_)
    refine lv_iinc (v := y_14) (lv' := [(3, .int y_14), (0, .ref b), (1, .ref (ga G 0)), (2, .ref (ga G 31))]) F.1.1 F.1.2.1 dL_law_1134 hl (k := 3) rfl ey_14 (by decide) rfl (fun ls hl => ?_)
    refine lv_goto (tgt := 18) F.1.1 F.1.2.1 dL_law_1137 (by decide) ?_
    exact ih18 y_14 μ_11 H locs ls hP hS (lv_sub hl [1, 2, 3, 0] rfl) hf
  · refine lv_iconst (v := (0 : Int32)) F.1.1 F.1.2.1 dL_law_260 (by decide) ?_
    exact absurd hf law_no
set_option maxHeartbeats 4000000 in
set_option maxRecDepth 100000 in
theorem tL_2 (l : Launch) (G : GT) {p : Program} {e : Env} {s : State} {m : MethodId} {below : List Frame} {meth : Method} {c : Code} {b L : Nat} {xs : Nat → Int32} {C S : Nat} {μ' : Mem} (F : Fx p s m #[Value.ref b] meth c cL_law 4 wsL_law RL ret G) (hX : va_X b L xs s s.heap) (hbl : b < s.heap.size) (hbA : ¬ gA G b) (hcs : C ≤ room_1.cells ∧ S ≤ room_1.slots) (K18 : Int32 → Mem → Option (Int32 × Mem)) (ih18 : ∀ (x3 : Int32) (μ : Mem) (H : Heap) (locs : List Loc) (ls : Array Slot), Hh G μ H → va_S (gA G) s.heap H locs → lv_has ls 4 [(0, .ref b), (1, .ref (ga G 0)), (2, .ref (ga G 31)), (3, .int x3)] → K18 x3 μ = some (1, μ') → W p l e room_1 s m #[Value.ref b] below meth c H locs C S (lw_Z below #[Value.ref b] s) (F0 m 18 ls [])) (x3 : Int32) (μ : Mem) (H : Heap) (locs : List Loc) (ls : Array Slot) (hP : Hh G μ H) (hS : va_S (gA G) s.heap H locs) (hl : lv_has ls 4 [(0, .ref b), (1, .ref (ga G 0)), (2, .ref (ga G 31)), (3, .int x3)]) (hf : cL_2 xs L K18 x3 μ = some (1, μ')) : W p l e room_1 s m #[Value.ref b] below meth c H locs C S (lw_Z below #[Value.ref b] s) (F0 m 262 ls []) := by
  unfold cL_2 at hf
  refine lv_aload_n F.1.1 F.1.2.1 dL_law_262 rfl (lv_at hl 1 rfl) ?_
  refine lv_aload_n F.1.1 F.1.2.1 dL_law_263 rfl (lv_at hl 0 rfl) ?_
  refine lv_iload_n F.1.1 F.1.2.1 dL_law_264 rfl (lv_at hl 3 rfl) ?_
  refine lv_iconst (v := (1 : Int32)) F.1.1 F.1.2.1 dL_law_265 (by decide) ?_
  refine lv_iadd F.1.1 F.1.2.1 dL_law_266 ?_
  refine r_sld F hX hbl hbA hS dL_law_267 hf (fun hf => ?_)
  obtain ⟨r_17, μ_15, hc_16, hf⟩ := bnd_some hf
  refine rV1 (R := room_1) (As := [.int (xs ((x3 + (1 : Int32))).toNatClampNeg)]) (rest := []) F hP hS hl (mX5_heat l G F.2.2.2.2 (xs ((x3 + (1 : Int32))).toNatClampNeg) _ _ _ hc_16) gL_law_X5_heat rfl hdX5_heat rfl rfl rfl ⟨Nat.le_of_ble_eq_true rfl, Nat.le_of_ble_eq_true rfl⟩ (by decide) rfl rfl rfl (Nat.le_of_ble_eq_true rfl) hcs dL_law_268 (fun H locs hP hS => ?_)
  refine lv_aload_n F.1.1 F.1.2.1 dL_law_271 rfl (lv_at hl 2 rfl) ?_
  refine lv_aload_n F.1.1 F.1.2.1 dL_law_272 rfl (lv_at hl 0 rfl) ?_
  refine lv_iload_n F.1.1 F.1.2.1 dL_law_273 rfl (lv_at hl 3 rfl) ?_
  refine lv_iconst (v := (1 : Int32)) F.1.1 F.1.2.1 dL_law_274 (by decide) ?_
  refine lv_iadd F.1.1 F.1.2.1 dL_law_275 ?_
  refine r_sld F hX hbl hbA hS dL_law_276 hf (fun hf => ?_)
  obtain ⟨r_20, μ_18, hc_19, hf⟩ := bnd_some hf
  refine rV1 (R := room_1) (As := [.int (xs ((x3 + (1 : Int32))).toNatClampNeg)]) (rest := [.int r_17]) F hP hS hl (mX6_heat l G F.2.2.2.2 (xs ((x3 + (1 : Int32))).toNatClampNeg) _ _ _ hc_19) gL_law_X6_heat rfl hdX6_heat rfl rfl rfl ⟨Nat.le_of_ble_eq_true rfl, Nat.le_of_ble_eq_true rfl⟩ (by decide) rfl rfl rfl (Nat.le_of_ble_eq_true rfl) hcs dL_law_277 (fun H locs hP hS => ?_)
  refine jc_eq (tgt := 1134) F dL_law_280 (by decide) hf (fun hf => ?_) (fun hf => ?_)
  · refine top_n hf (fun y_21 ey_21 hf => ?_)
    refine lv_iinc (v := y_21) (lv' := [(3, .int y_21), (0, .ref b), (1, .ref (ga G 0)), (2, .ref (ga G 31))]) F.1.1 F.1.2.1 dL_law_1134 hl (k := 3) rfl ey_21 (by decide) rfl (fun ls hl => ?_)
    refine lv_goto (tgt := 18) F.1.1 F.1.2.1 dL_law_1137 (by decide) ?_
    exact ih18 y_21 μ_18 H locs ls hP hS (lv_sub hl [1, 2, 3, 0] rfl) hf
  · refine lv_iconst (v := (0 : Int32)) F.1.1 F.1.2.1 dL_law_283 (by decide) ?_
    exact absurd hf law_no
set_option maxHeartbeats 4000000 in
set_option maxRecDepth 100000 in
theorem tL_3 (l : Launch) (G : GT) {p : Program} {e : Env} {s : State} {m : MethodId} {below : List Frame} {meth : Method} {c : Code} {b L : Nat} {xs : Nat → Int32} {C S : Nat} {μ' : Mem} (F : Fx p s m #[Value.ref b] meth c cL_law 4 wsL_law RL ret G) (hX : va_X b L xs s s.heap) (hbl : b < s.heap.size) (hbA : ¬ gA G b) (hcs : C ≤ room_1.cells ∧ S ≤ room_1.slots) (K18 : Int32 → Mem → Option (Int32 × Mem)) (ih18 : ∀ (x3 : Int32) (μ : Mem) (H : Heap) (locs : List Loc) (ls : Array Slot), Hh G μ H → va_S (gA G) s.heap H locs → lv_has ls 4 [(0, .ref b), (1, .ref (ga G 0)), (2, .ref (ga G 31)), (3, .int x3)] → K18 x3 μ = some (1, μ') → W p l e room_1 s m #[Value.ref b] below meth c H locs C S (lw_Z below #[Value.ref b] s) (F0 m 18 ls [])) (x3 : Int32) (μ : Mem) (H : Heap) (locs : List Loc) (ls : Array Slot) (hP : Hh G μ H) (hS : va_S (gA G) s.heap H locs) (hl : lv_has ls 4 [(0, .ref b), (1, .ref (ga G 0)), (2, .ref (ga G 31)), (3, .int x3)]) (hf : cL_3 xs L K18 x3 μ = some (1, μ')) : W p l e room_1 s m #[Value.ref b] below meth c H locs C S (lw_Z below #[Value.ref b] s) (F0 m 285 ls []) := by
  unfold cL_3 at hf
  refine lv_aload_n F.1.1 F.1.2.1 dL_law_285 rfl (lv_at hl 1 rfl) ?_
  refine lv_aload_n F.1.1 F.1.2.1 dL_law_286 rfl (lv_at hl 0 rfl) ?_
  refine lv_iload_n F.1.1 F.1.2.1 dL_law_287 rfl (lv_at hl 3 rfl) ?_
  refine lv_iconst (v := (1 : Int32)) F.1.1 F.1.2.1 dL_law_288 (by decide) ?_
  refine lv_iadd F.1.1 F.1.2.1 dL_law_289 ?_
  refine r_sld F hX hbl hbA hS dL_law_290 hf (fun hf => ?_)
  obtain ⟨r_24, μ_22, hc_23, hf⟩ := bnd_some hf
  refine rV1 (R := room_1) (As := [.int (xs ((x3 + (1 : Int32))).toNatClampNeg)]) (rest := []) F hP hS hl (mX5_wet l G F.2.2.2.2 (xs ((x3 + (1 : Int32))).toNatClampNeg) _ _ _ hc_23) gL_law_X5_wet rfl hdX5_wet rfl rfl rfl ⟨Nat.le_of_ble_eq_true rfl, Nat.le_of_ble_eq_true rfl⟩ (by decide) rfl rfl rfl (Nat.le_of_ble_eq_true rfl) hcs dL_law_291 (fun H locs hP hS => ?_)
  refine lv_aload_n F.1.1 F.1.2.1 dL_law_294 rfl (lv_at hl 2 rfl) ?_
  refine lv_aload_n F.1.1 F.1.2.1 dL_law_295 rfl (lv_at hl 0 rfl) ?_
  refine lv_iload_n F.1.1 F.1.2.1 dL_law_296 rfl (lv_at hl 3 rfl) ?_
  refine lv_iconst (v := (1 : Int32)) F.1.1 F.1.2.1 dL_law_297 (by decide) ?_
  refine lv_iadd F.1.1 F.1.2.1 dL_law_298 ?_
  refine r_sld F hX hbl hbA hS dL_law_299 hf (fun hf => ?_)
  obtain ⟨r_27, μ_25, hc_26, hf⟩ := bnd_some hf
  refine rV1 (R := room_1) (As := [.int (xs ((x3 + (1 : Int32))).toNatClampNeg)]) (rest := [.int r_24]) F hP hS hl (mX6_wet l G F.2.2.2.2 (xs ((x3 + (1 : Int32))).toNatClampNeg) _ _ _ hc_26) gL_law_X6_wet rfl hdX6_wet rfl rfl rfl ⟨Nat.le_of_ble_eq_true rfl, Nat.le_of_ble_eq_true rfl⟩ (by decide) rfl rfl rfl (Nat.le_of_ble_eq_true rfl) hcs dL_law_300 (fun H locs hP hS => ?_)
  refine jc_eq (tgt := 1134) F dL_law_303 (by decide) hf (fun hf => ?_) (fun hf => ?_)
  · refine top_n hf (fun y_28 ey_28 hf => ?_)
    refine lv_iinc (v := y_28) (lv' := [(3, .int y_28), (0, .ref b), (1, .ref (ga G 0)), (2, .ref (ga G 31))]) F.1.1 F.1.2.1 dL_law_1134 hl (k := 3) rfl ey_28 (by decide) rfl (fun ls hl => ?_)
    refine lv_goto (tgt := 18) F.1.1 F.1.2.1 dL_law_1137 (by decide) ?_
    exact ih18 y_28 μ_25 H locs ls hP hS (lv_sub hl [1, 2, 3, 0] rfl) hf
  · refine lv_iconst (v := (0 : Int32)) F.1.1 F.1.2.1 dL_law_306 (by decide) ?_
    exact absurd hf law_no
set_option maxHeartbeats 4000000 in
set_option maxRecDepth 100000 in
theorem tL_4 (l : Launch) (G : GT) {p : Program} {e : Env} {s : State} {m : MethodId} {below : List Frame} {meth : Method} {c : Code} {b L : Nat} {xs : Nat → Int32} {C S : Nat} {μ' : Mem} (F : Fx p s m #[Value.ref b] meth c cL_law 4 wsL_law RL ret G) (hX : va_X b L xs s s.heap) (hbl : b < s.heap.size) (hbA : ¬ gA G b) (hcs : C ≤ room_1.cells ∧ S ≤ room_1.slots) (K18 : Int32 → Mem → Option (Int32 × Mem)) (ih18 : ∀ (x3 : Int32) (μ : Mem) (H : Heap) (locs : List Loc) (ls : Array Slot), Hh G μ H → va_S (gA G) s.heap H locs → lv_has ls 4 [(0, .ref b), (1, .ref (ga G 0)), (2, .ref (ga G 31)), (3, .int x3)] → K18 x3 μ = some (1, μ') → W p l e room_1 s m #[Value.ref b] below meth c H locs C S (lw_Z below #[Value.ref b] s) (F0 m 18 ls [])) (x3 : Int32) (μ : Mem) (H : Heap) (locs : List Loc) (ls : Array Slot) (hP : Hh G μ H) (hS : va_S (gA G) s.heap H locs) (hl : lv_has ls 4 [(0, .ref b), (1, .ref (ga G 0)), (2, .ref (ga G 31)), (3, .int x3)]) (hf : cL_4 xs L K18 x3 μ = some (1, μ')) : W p l e room_1 s m #[Value.ref b] below meth c H locs C S (lw_Z below #[Value.ref b] s) (F0 m 308 ls []) := by
  unfold cL_4 at hf
  refine lv_aload_n F.1.1 F.1.2.1 dL_law_308 rfl (lv_at hl 1 rfl) ?_
  refine lv_aload_n F.1.1 F.1.2.1 dL_law_309 rfl (lv_at hl 0 rfl) ?_
  refine lv_iload_n F.1.1 F.1.2.1 dL_law_310 rfl (lv_at hl 3 rfl) ?_
  refine lv_iconst (v := (1 : Int32)) F.1.1 F.1.2.1 dL_law_311 (by decide) ?_
  refine lv_iadd F.1.1 F.1.2.1 dL_law_312 ?_
  refine r_sld F hX hbl hbA hS dL_law_313 hf (fun hf => ?_)
  refine lv_aload_n F.1.1 F.1.2.1 dL_law_314 rfl (lv_at hl 0 rfl) ?_
  refine lv_iload_n F.1.1 F.1.2.1 dL_law_315 rfl (lv_at hl 3 rfl) ?_
  refine lv_iconst (v := (2 : Int32)) F.1.1 F.1.2.1 dL_law_316 (by decide) ?_
  refine lv_iadd F.1.1 F.1.2.1 dL_law_317 ?_
  refine r_sld F hX hbl hbA hS dL_law_318 hf (fun hf => ?_)
  obtain ⟨r_31, μ_29, hc_30, hf⟩ := bnd_some hf
  refine rV1 (R := room_1) (As := [.int (xs ((x3 + (1 : Int32))).toNatClampNeg), .int (xs ((x3 + (2 : Int32))).toNatClampNeg)]) (rest := []) F hP hS hl (mX5_paste l G F.2.2.2.2 (xs ((x3 + (1 : Int32))).toNatClampNeg) (xs ((x3 + (2 : Int32))).toNatClampNeg) _ _ _ hc_30) gL_law_X5_paste rfl hdX5_paste rfl rfl rfl ⟨Nat.le_of_ble_eq_true rfl, Nat.le_of_ble_eq_true rfl⟩ (by decide) rfl rfl rfl (Nat.le_of_ble_eq_true rfl) hcs dL_law_319 (fun H locs hP hS => ?_)
  refine lv_aload_n F.1.1 F.1.2.1 dL_law_322 rfl (lv_at hl 2 rfl) ?_
  refine lv_aload_n F.1.1 F.1.2.1 dL_law_323 rfl (lv_at hl 0 rfl) ?_
  refine lv_iload_n F.1.1 F.1.2.1 dL_law_324 rfl (lv_at hl 3 rfl) ?_
  refine lv_iconst (v := (1 : Int32)) F.1.1 F.1.2.1 dL_law_325 (by decide) ?_
  refine lv_iadd F.1.1 F.1.2.1 dL_law_326 ?_
  refine r_sld F hX hbl hbA hS dL_law_327 hf (fun hf => ?_)
  refine lv_aload_n F.1.1 F.1.2.1 dL_law_328 rfl (lv_at hl 0 rfl) ?_
  refine lv_iload_n F.1.1 F.1.2.1 dL_law_329 rfl (lv_at hl 3 rfl) ?_
  refine lv_iconst (v := (2 : Int32)) F.1.1 F.1.2.1 dL_law_330 (by decide) ?_
  refine lv_iadd F.1.1 F.1.2.1 dL_law_331 ?_
  refine r_sld F hX hbl hbA hS dL_law_332 hf (fun hf => ?_)
  obtain ⟨r_34, μ_32, hc_33, hf⟩ := bnd_some hf
  refine rV1 (R := room_1) (As := [.int (xs ((x3 + (1 : Int32))).toNatClampNeg), .int (xs ((x3 + (2 : Int32))).toNatClampNeg)]) (rest := [.int r_31]) F hP hS hl (mX6_paste l G F.2.2.2.2 (xs ((x3 + (1 : Int32))).toNatClampNeg) (xs ((x3 + (2 : Int32))).toNatClampNeg) _ _ _ hc_33) gL_law_X6_paste rfl hdX6_paste rfl rfl rfl ⟨Nat.le_of_ble_eq_true rfl, Nat.le_of_ble_eq_true rfl⟩ (by decide) rfl rfl rfl (Nat.le_of_ble_eq_true rfl) hcs dL_law_333 (fun H locs hP hS => ?_)
  refine jc_eq (tgt := 1134) F dL_law_336 (by decide) hf (fun hf => ?_) (fun hf => ?_)
  · refine top_n hf (fun y_35 ey_35 hf => ?_)
    refine lv_iinc (v := y_35) (lv' := [(3, .int y_35), (0, .ref b), (1, .ref (ga G 0)), (2, .ref (ga G 31))]) F.1.1 F.1.2.1 dL_law_1134 hl (k := 3) rfl ey_35 (by decide) rfl (fun ls hl => ?_)
    refine lv_goto (tgt := 18) F.1.1 F.1.2.1 dL_law_1137 (by decide) ?_
    exact ih18 y_35 μ_32 H locs ls hP hS (lv_sub hl [1, 2, 3, 0] rfl) hf
  · refine lv_iconst (v := (0 : Int32)) F.1.1 F.1.2.1 dL_law_339 (by decide) ?_
    exact absurd hf law_no
set_option maxHeartbeats 4000000 in
set_option maxRecDepth 100000 in
theorem tL_5 (l : Launch) (G : GT) {p : Program} {e : Env} {s : State} {m : MethodId} {below : List Frame} {meth : Method} {c : Code} {b L : Nat} {xs : Nat → Int32} {C S : Nat} {μ' : Mem} (F : Fx p s m #[Value.ref b] meth c cL_law 4 wsL_law RL ret G) (hX : va_X b L xs s s.heap) (hbl : b < s.heap.size) (hbA : ¬ gA G b) (hcs : C ≤ room_1.cells ∧ S ≤ room_1.slots) (K18 : Int32 → Mem → Option (Int32 × Mem)) (ih18 : ∀ (x3 : Int32) (μ : Mem) (H : Heap) (locs : List Loc) (ls : Array Slot), Hh G μ H → va_S (gA G) s.heap H locs → lv_has ls 4 [(0, .ref b), (1, .ref (ga G 0)), (2, .ref (ga G 31)), (3, .int x3)] → K18 x3 μ = some (1, μ') → W p l e room_1 s m #[Value.ref b] below meth c H locs C S (lw_Z below #[Value.ref b] s) (F0 m 18 ls [])) (x3 : Int32) (μ : Mem) (H : Heap) (locs : List Loc) (ls : Array Slot) (hP : Hh G μ H) (hS : va_S (gA G) s.heap H locs) (hl : lv_has ls 4 [(0, .ref b), (1, .ref (ga G 0)), (2, .ref (ga G 31)), (3, .int x3)]) (hf : cL_5 xs L K18 x3 μ = some (1, μ')) : W p l e room_1 s m #[Value.ref b] below meth c H locs C S (lw_Z below #[Value.ref b] s) (F0 m 341 ls []) := by
  unfold cL_5 at hf
  refine lv_aload_n F.1.1 F.1.2.1 dL_law_341 rfl (lv_at hl 1 rfl) ?_
  obtain ⟨r_38, μ_36, hc_37, hf⟩ := bnd_some hf
  refine rV1 (R := room_1) (As := []) (rest := []) F hP hS hl (mX5_heard l G F.2.2.2.2  _ _ _ hc_37) gL_law_X5_heard rfl hdX5_heard rfl rfl rfl ⟨Nat.le_of_ble_eq_true rfl, Nat.le_of_ble_eq_true rfl⟩ (by decide) rfl rfl rfl (Nat.le_of_ble_eq_true rfl) hcs dL_law_342 (fun H locs hP hS => ?_)
  refine lv_aload_n F.1.1 F.1.2.1 dL_law_345 rfl (lv_at hl 2 rfl) ?_
  obtain ⟨r_41, μ_39, hc_40, hf⟩ := bnd_some hf
  refine rV1 (R := room_1) (As := []) (rest := [.int r_38]) F hP hS hl (mX6_heard l G F.2.2.2.2  _ _ _ hc_40) gL_law_X6_heard rfl hdX6_heard rfl rfl rfl ⟨Nat.le_of_ble_eq_true rfl, Nat.le_of_ble_eq_true rfl⟩ (by decide) rfl rfl rfl (Nat.le_of_ble_eq_true rfl) hcs dL_law_346 (fun H locs hP hS => ?_)
  refine jc_eq (tgt := 1134) F dL_law_349 (by decide) hf (fun hf => ?_) (fun hf => ?_)
  · refine top_n hf (fun y_42 ey_42 hf => ?_)
    refine lv_iinc (v := y_42) (lv' := [(3, .int y_42), (0, .ref b), (1, .ref (ga G 0)), (2, .ref (ga G 31))]) F.1.1 F.1.2.1 dL_law_1134 hl (k := 3) rfl ey_42 (by decide) rfl (fun ls hl => ?_)
    refine lv_goto (tgt := 18) F.1.1 F.1.2.1 dL_law_1137 (by decide) ?_
    exact ih18 y_42 μ_39 H locs ls hP hS (lv_sub hl [1, 2, 3, 0] rfl) hf
  · refine lv_iconst (v := (0 : Int32)) F.1.1 F.1.2.1 dL_law_352 (by decide) ?_
    exact absurd hf law_no
set_option maxHeartbeats 4000000 in
set_option maxRecDepth 100000 in
theorem tL_6 (l : Launch) (G : GT) {p : Program} {e : Env} {s : State} {m : MethodId} {below : List Frame} {meth : Method} {c : Code} {b L : Nat} {xs : Nat → Int32} {C S : Nat} {μ' : Mem} (F : Fx p s m #[Value.ref b] meth c cL_law 4 wsL_law RL ret G) (hX : va_X b L xs s s.heap) (hbl : b < s.heap.size) (hbA : ¬ gA G b) (hcs : C ≤ room_1.cells ∧ S ≤ room_1.slots) (K18 : Int32 → Mem → Option (Int32 × Mem)) (ih18 : ∀ (x3 : Int32) (μ : Mem) (H : Heap) (locs : List Loc) (ls : Array Slot), Hh G μ H → va_S (gA G) s.heap H locs → lv_has ls 4 [(0, .ref b), (1, .ref (ga G 0)), (2, .ref (ga G 31)), (3, .int x3)] → K18 x3 μ = some (1, μ') → W p l e room_1 s m #[Value.ref b] below meth c H locs C S (lw_Z below #[Value.ref b] s) (F0 m 18 ls [])) (x3 : Int32) (μ : Mem) (H : Heap) (locs : List Loc) (ls : Array Slot) (hP : Hh G μ H) (hS : va_S (gA G) s.heap H locs) (hl : lv_has ls 4 [(0, .ref b), (1, .ref (ga G 0)), (2, .ref (ga G 31)), (3, .int x3)]) (hf : cL_6 xs L K18 x3 μ = some (1, μ')) : W p l e room_1 s m #[Value.ref b] below meth c H locs C S (lw_Z below #[Value.ref b] s) (F0 m 354 ls []) := by
  unfold cL_6 at hf
  refine lv_aload_n F.1.1 F.1.2.1 dL_law_354 rfl (lv_at hl 1 rfl) ?_
  refine lv_aload_n F.1.1 F.1.2.1 dL_law_355 rfl (lv_at hl 0 rfl) ?_
  refine lv_iload_n F.1.1 F.1.2.1 dL_law_356 rfl (lv_at hl 3 rfl) ?_
  refine lv_iconst (v := (1 : Int32)) F.1.1 F.1.2.1 dL_law_357 (by decide) ?_
  refine lv_iadd F.1.1 F.1.2.1 dL_law_358 ?_
  refine r_sld F hX hbl hbA hS dL_law_359 hf (fun hf => ?_)
  refine lv_aload_n F.1.1 F.1.2.1 dL_law_360 rfl (lv_at hl 0 rfl) ?_
  refine lv_iload_n F.1.1 F.1.2.1 dL_law_361 rfl (lv_at hl 3 rfl) ?_
  refine lv_iconst (v := (2 : Int32)) F.1.1 F.1.2.1 dL_law_362 (by decide) ?_
  refine lv_iadd F.1.1 F.1.2.1 dL_law_363 ?_
  refine r_sld F hX hbl hbA hS dL_law_364 hf (fun hf => ?_)
  obtain ⟨r_45, μ_43, hc_44, hf⟩ := bnd_some hf
  refine rV1 (R := room_1) (As := [.int (xs ((x3 + (1 : Int32))).toNatClampNeg), .int (xs ((x3 + (2 : Int32))).toNatClampNeg)]) (rest := []) F hP hS hl (mX5_counsel l G F.2.2.2.2 (xs ((x3 + (1 : Int32))).toNatClampNeg) (xs ((x3 + (2 : Int32))).toNatClampNeg) _ _ _ hc_44) gL_law_X5_counsel rfl hdX5_counsel rfl rfl rfl ⟨Nat.le_of_ble_eq_true rfl, Nat.le_of_ble_eq_true rfl⟩ (by decide) rfl rfl rfl (Nat.le_of_ble_eq_true rfl) hcs dL_law_365 (fun H locs hP hS => ?_)
  refine lv_aload_n F.1.1 F.1.2.1 dL_law_368 rfl (lv_at hl 2 rfl) ?_
  refine lv_aload_n F.1.1 F.1.2.1 dL_law_369 rfl (lv_at hl 0 rfl) ?_
  refine lv_iload_n F.1.1 F.1.2.1 dL_law_370 rfl (lv_at hl 3 rfl) ?_
  refine lv_iconst (v := (1 : Int32)) F.1.1 F.1.2.1 dL_law_371 (by decide) ?_
  refine lv_iadd F.1.1 F.1.2.1 dL_law_372 ?_
  refine r_sld F hX hbl hbA hS dL_law_373 hf (fun hf => ?_)
  refine lv_aload_n F.1.1 F.1.2.1 dL_law_374 rfl (lv_at hl 0 rfl) ?_
  refine lv_iload_n F.1.1 F.1.2.1 dL_law_375 rfl (lv_at hl 3 rfl) ?_
  refine lv_iconst (v := (2 : Int32)) F.1.1 F.1.2.1 dL_law_376 (by decide) ?_
  refine lv_iadd F.1.1 F.1.2.1 dL_law_377 ?_
  refine r_sld F hX hbl hbA hS dL_law_378 hf (fun hf => ?_)
  obtain ⟨r_48, μ_46, hc_47, hf⟩ := bnd_some hf
  refine rV1 (R := room_1) (As := [.int (xs ((x3 + (1 : Int32))).toNatClampNeg), .int (xs ((x3 + (2 : Int32))).toNatClampNeg)]) (rest := [.int r_45]) F hP hS hl (mX6_counsel l G F.2.2.2.2 (xs ((x3 + (1 : Int32))).toNatClampNeg) (xs ((x3 + (2 : Int32))).toNatClampNeg) _ _ _ hc_47) gL_law_X6_counsel rfl hdX6_counsel rfl rfl rfl ⟨Nat.le_of_ble_eq_true rfl, Nat.le_of_ble_eq_true rfl⟩ (by decide) rfl rfl rfl (Nat.le_of_ble_eq_true rfl) hcs dL_law_379 (fun H locs hP hS => ?_)
  refine jc_eq (tgt := 1134) F dL_law_382 (by decide) hf (fun hf => ?_) (fun hf => ?_)
  · refine top_n hf (fun y_49 ey_49 hf => ?_)
    refine lv_iinc (v := y_49) (lv' := [(3, .int y_49), (0, .ref b), (1, .ref (ga G 0)), (2, .ref (ga G 31))]) F.1.1 F.1.2.1 dL_law_1134 hl (k := 3) rfl ey_49 (by decide) rfl (fun ls hl => ?_)
    refine lv_goto (tgt := 18) F.1.1 F.1.2.1 dL_law_1137 (by decide) ?_
    exact ih18 y_49 μ_46 H locs ls hP hS (lv_sub hl [1, 2, 3, 0] rfl) hf
  · refine lv_iconst (v := (0 : Int32)) F.1.1 F.1.2.1 dL_law_385 (by decide) ?_
    exact absurd hf law_no
set_option maxHeartbeats 4000000 in
set_option maxRecDepth 100000 in
theorem tL_7 (l : Launch) (G : GT) {p : Program} {e : Env} {s : State} {m : MethodId} {below : List Frame} {meth : Method} {c : Code} {b L : Nat} {xs : Nat → Int32} {C S : Nat} {μ' : Mem} (F : Fx p s m #[Value.ref b] meth c cL_law 4 wsL_law RL ret G) (hX : va_X b L xs s s.heap) (hbl : b < s.heap.size) (hbA : ¬ gA G b) (hcs : C ≤ room_1.cells ∧ S ≤ room_1.slots) (K18 : Int32 → Mem → Option (Int32 × Mem)) (ih18 : ∀ (x3 : Int32) (μ : Mem) (H : Heap) (locs : List Loc) (ls : Array Slot), Hh G μ H → va_S (gA G) s.heap H locs → lv_has ls 4 [(0, .ref b), (1, .ref (ga G 0)), (2, .ref (ga G 31)), (3, .int x3)] → K18 x3 μ = some (1, μ') → W p l e room_1 s m #[Value.ref b] below meth c H locs C S (lw_Z below #[Value.ref b] s) (F0 m 18 ls [])) (x3 : Int32) (μ : Mem) (H : Heap) (locs : List Loc) (ls : Array Slot) (hP : Hh G μ H) (hS : va_S (gA G) s.heap H locs) (hl : lv_has ls 4 [(0, .ref b), (1, .ref (ga G 0)), (2, .ref (ga G 31)), (3, .int x3)]) (hf : cL_7 xs L K18 x3 μ = some (1, μ')) : W p l e room_1 s m #[Value.ref b] below meth c H locs C S (lw_Z below #[Value.ref b] s) (F0 m 387 ls []) := by
  unfold cL_7 at hf
  refine lv_aload_n F.1.1 F.1.2.1 dL_law_387 rfl (lv_at hl 1 rfl) ?_
  refine lv_aload_n F.1.1 F.1.2.1 dL_law_388 rfl (lv_at hl 0 rfl) ?_
  refine lv_iload_n F.1.1 F.1.2.1 dL_law_389 rfl (lv_at hl 3 rfl) ?_
  refine lv_iconst (v := (1 : Int32)) F.1.1 F.1.2.1 dL_law_390 (by decide) ?_
  refine lv_iadd F.1.1 F.1.2.1 dL_law_391 ?_
  refine r_sld F hX hbl hbA hS dL_law_392 hf (fun hf => ?_)
  obtain ⟨r_52, μ_50, hc_51, hf⟩ := bnd_some hf
  refine rV1 (R := room_1) (As := [.int (xs ((x3 + (1 : Int32))).toNatClampNeg)]) (rest := []) F hP hS hl (mX5_clash l G F.2.2.2.2 (xs ((x3 + (1 : Int32))).toNatClampNeg) _ _ _ hc_51) gL_law_X5_clash rfl hdX5_clash rfl rfl rfl ⟨Nat.le_of_ble_eq_true rfl, Nat.le_of_ble_eq_true rfl⟩ (by decide) rfl rfl rfl (Nat.le_of_ble_eq_true rfl) hcs dL_law_393 (fun H locs hP hS => ?_)
  refine lv_aload_n F.1.1 F.1.2.1 dL_law_396 rfl (lv_at hl 2 rfl) ?_
  refine lv_aload_n F.1.1 F.1.2.1 dL_law_397 rfl (lv_at hl 0 rfl) ?_
  refine lv_iload_n F.1.1 F.1.2.1 dL_law_398 rfl (lv_at hl 3 rfl) ?_
  refine lv_iconst (v := (1 : Int32)) F.1.1 F.1.2.1 dL_law_399 (by decide) ?_
  refine lv_iadd F.1.1 F.1.2.1 dL_law_400 ?_
  refine r_sld F hX hbl hbA hS dL_law_401 hf (fun hf => ?_)
  obtain ⟨r_55, μ_53, hc_54, hf⟩ := bnd_some hf
  refine rV1 (R := room_1) (As := [.int (xs ((x3 + (1 : Int32))).toNatClampNeg)]) (rest := [.int r_52]) F hP hS hl (mX6_clash l G F.2.2.2.2 (xs ((x3 + (1 : Int32))).toNatClampNeg) _ _ _ hc_54) gL_law_X6_clash rfl hdX6_clash rfl rfl rfl ⟨Nat.le_of_ble_eq_true rfl, Nat.le_of_ble_eq_true rfl⟩ (by decide) rfl rfl rfl (Nat.le_of_ble_eq_true rfl) hcs dL_law_402 (fun H locs hP hS => ?_)
  refine jc_eq (tgt := 1134) F dL_law_405 (by decide) hf (fun hf => ?_) (fun hf => ?_)
  · refine top_n hf (fun y_56 ey_56 hf => ?_)
    refine lv_iinc (v := y_56) (lv' := [(3, .int y_56), (0, .ref b), (1, .ref (ga G 0)), (2, .ref (ga G 31))]) F.1.1 F.1.2.1 dL_law_1134 hl (k := 3) rfl ey_56 (by decide) rfl (fun ls hl => ?_)
    refine lv_goto (tgt := 18) F.1.1 F.1.2.1 dL_law_1137 (by decide) ?_
    exact ih18 y_56 μ_53 H locs ls hP hS (lv_sub hl [1, 2, 3, 0] rfl) hf
  · refine lv_iconst (v := (0 : Int32)) F.1.1 F.1.2.1 dL_law_408 (by decide) ?_
    exact absurd hf law_no
set_option maxHeartbeats 4000000 in
set_option maxRecDepth 100000 in
theorem tL_8 (l : Launch) (G : GT) {p : Program} {e : Env} {s : State} {m : MethodId} {below : List Frame} {meth : Method} {c : Code} {b L : Nat} {xs : Nat → Int32} {C S : Nat} {μ' : Mem} (F : Fx p s m #[Value.ref b] meth c cL_law 4 wsL_law RL ret G) (hX : va_X b L xs s s.heap) (hbl : b < s.heap.size) (hbA : ¬ gA G b) (hcs : C ≤ room_1.cells ∧ S ≤ room_1.slots) (K18 : Int32 → Mem → Option (Int32 × Mem)) (ih18 : ∀ (x3 : Int32) (μ : Mem) (H : Heap) (locs : List Loc) (ls : Array Slot), Hh G μ H → va_S (gA G) s.heap H locs → lv_has ls 4 [(0, .ref b), (1, .ref (ga G 0)), (2, .ref (ga G 31)), (3, .int x3)] → K18 x3 μ = some (1, μ') → W p l e room_1 s m #[Value.ref b] below meth c H locs C S (lw_Z below #[Value.ref b] s) (F0 m 18 ls [])) (x3 : Int32) (μ : Mem) (H : Heap) (locs : List Loc) (ls : Array Slot) (hP : Hh G μ H) (hS : va_S (gA G) s.heap H locs) (hl : lv_has ls 4 [(0, .ref b), (1, .ref (ga G 0)), (2, .ref (ga G 31)), (3, .int x3)]) (hf : cL_8 xs L K18 x3 μ = some (1, μ')) : W p l e room_1 s m #[Value.ref b] below meth c H locs C S (lw_Z below #[Value.ref b] s) (F0 m 410 ls []) := by
  unfold cL_8 at hf
  refine lv_aload_n F.1.1 F.1.2.1 dL_law_410 rfl (lv_at hl 1 rfl) ?_
  refine lv_aload_n F.1.1 F.1.2.1 dL_law_411 rfl (lv_at hl 0 rfl) ?_
  refine lv_iload_n F.1.1 F.1.2.1 dL_law_412 rfl (lv_at hl 3 rfl) ?_
  refine lv_iconst (v := (1 : Int32)) F.1.1 F.1.2.1 dL_law_413 (by decide) ?_
  refine lv_iadd F.1.1 F.1.2.1 dL_law_414 ?_
  refine r_sld F hX hbl hbA hS dL_law_415 hf (fun hf => ?_)
  refine lv_aload_n F.1.1 F.1.2.1 dL_law_416 rfl (lv_at hl 0 rfl) ?_
  refine lv_iload_n F.1.1 F.1.2.1 dL_law_417 rfl (lv_at hl 3 rfl) ?_
  refine lv_iconst (v := (2 : Int32)) F.1.1 F.1.2.1 dL_law_418 (by decide) ?_
  refine lv_iadd F.1.1 F.1.2.1 dL_law_419 ?_
  refine r_sld F hX hbl hbA hS dL_law_420 hf (fun hf => ?_)
  refine lv_aload_n F.1.1 F.1.2.1 dL_law_421 rfl (lv_at hl 0 rfl) ?_
  refine lv_iload_n F.1.1 F.1.2.1 dL_law_422 rfl (lv_at hl 3 rfl) ?_
  refine lv_iconst (v := (3 : Int32)) F.1.1 F.1.2.1 dL_law_423 (by decide) ?_
  refine lv_iadd F.1.1 F.1.2.1 dL_law_424 ?_
  refine r_sld F hX hbl hbA hS dL_law_425 hf (fun hf => ?_)
  obtain ⟨r_59, μ_57, hc_58, hf⟩ := bnd_some hf
  refine rV1 (R := room_1) (As := [.int (xs ((x3 + (1 : Int32))).toNatClampNeg), .int (xs ((x3 + (2 : Int32))).toNatClampNeg), .int (xs ((x3 + (3 : Int32))).toNatClampNeg)]) (rest := []) F hP hS hl (mX5_putUp l G F.2.2.2.2 (xs ((x3 + (1 : Int32))).toNatClampNeg) (xs ((x3 + (2 : Int32))).toNatClampNeg) (xs ((x3 + (3 : Int32))).toNatClampNeg) _ _ _ hc_58) gL_law_X5_putUp rfl hdX5_putUp rfl rfl rfl ⟨Nat.le_of_ble_eq_true rfl, Nat.le_of_ble_eq_true rfl⟩ (by decide) rfl rfl rfl (Nat.le_of_ble_eq_true rfl) hcs dL_law_426 (fun H locs hP hS => ?_)
  refine lv_aload_n F.1.1 F.1.2.1 dL_law_429 rfl (lv_at hl 2 rfl) ?_
  refine lv_aload_n F.1.1 F.1.2.1 dL_law_430 rfl (lv_at hl 0 rfl) ?_
  refine lv_iload_n F.1.1 F.1.2.1 dL_law_431 rfl (lv_at hl 3 rfl) ?_
  refine lv_iconst (v := (1 : Int32)) F.1.1 F.1.2.1 dL_law_432 (by decide) ?_
  refine lv_iadd F.1.1 F.1.2.1 dL_law_433 ?_
  refine r_sld F hX hbl hbA hS dL_law_434 hf (fun hf => ?_)
  refine lv_aload_n F.1.1 F.1.2.1 dL_law_435 rfl (lv_at hl 0 rfl) ?_
  refine lv_iload_n F.1.1 F.1.2.1 dL_law_436 rfl (lv_at hl 3 rfl) ?_
  refine lv_iconst (v := (2 : Int32)) F.1.1 F.1.2.1 dL_law_437 (by decide) ?_
  refine lv_iadd F.1.1 F.1.2.1 dL_law_438 ?_
  refine r_sld F hX hbl hbA hS dL_law_439 hf (fun hf => ?_)
  refine lv_aload_n F.1.1 F.1.2.1 dL_law_440 rfl (lv_at hl 0 rfl) ?_
  refine lv_iload_n F.1.1 F.1.2.1 dL_law_441 rfl (lv_at hl 3 rfl) ?_
  refine lv_iconst (v := (3 : Int32)) F.1.1 F.1.2.1 dL_law_442 (by decide) ?_
  refine lv_iadd F.1.1 F.1.2.1 dL_law_443 ?_
  refine r_sld F hX hbl hbA hS dL_law_444 hf (fun hf => ?_)
  obtain ⟨r_62, μ_60, hc_61, hf⟩ := bnd_some hf
  refine rV1 (R := room_1) (As := [.int (xs ((x3 + (1 : Int32))).toNatClampNeg), .int (xs ((x3 + (2 : Int32))).toNatClampNeg), .int (xs ((x3 + (3 : Int32))).toNatClampNeg)]) (rest := [.int r_59]) F hP hS hl (mX6_putUp l G F.2.2.2.2 (xs ((x3 + (1 : Int32))).toNatClampNeg) (xs ((x3 + (2 : Int32))).toNatClampNeg) (xs ((x3 + (3 : Int32))).toNatClampNeg) _ _ _ hc_61) gL_law_X6_putUp rfl hdX6_putUp rfl rfl rfl ⟨Nat.le_of_ble_eq_true rfl, Nat.le_of_ble_eq_true rfl⟩ (by decide) rfl rfl rfl (Nat.le_of_ble_eq_true rfl) hcs dL_law_445 (fun H locs hP hS => ?_)
  refine jc_eq (tgt := 1134) F dL_law_448 (by decide) hf (fun hf => ?_) (fun hf => ?_)
  · refine top_n hf (fun y_63 ey_63 hf => ?_)
    refine lv_iinc (v := y_63) (lv' := [(3, .int y_63), (0, .ref b), (1, .ref (ga G 0)), (2, .ref (ga G 31))]) F.1.1 F.1.2.1 dL_law_1134 hl (k := 3) rfl ey_63 (by decide) rfl (fun ls hl => ?_)
    refine lv_goto (tgt := 18) F.1.1 F.1.2.1 dL_law_1137 (by decide) ?_
    exact ih18 y_63 μ_60 H locs ls hP hS (lv_sub hl [1, 2, 3, 0] rfl) hf
  · refine lv_iconst (v := (0 : Int32)) F.1.1 F.1.2.1 dL_law_451 (by decide) ?_
    exact absurd hf law_no
set_option maxHeartbeats 4000000 in
set_option maxRecDepth 100000 in
theorem tL_9 (l : Launch) (G : GT) {p : Program} {e : Env} {s : State} {m : MethodId} {below : List Frame} {meth : Method} {c : Code} {b L : Nat} {xs : Nat → Int32} {C S : Nat} {μ' : Mem} (F : Fx p s m #[Value.ref b] meth c cL_law 4 wsL_law RL ret G) (hX : va_X b L xs s s.heap) (hbl : b < s.heap.size) (hbA : ¬ gA G b) (hcs : C ≤ room_1.cells ∧ S ≤ room_1.slots) (K18 : Int32 → Mem → Option (Int32 × Mem)) (ih18 : ∀ (x3 : Int32) (μ : Mem) (H : Heap) (locs : List Loc) (ls : Array Slot), Hh G μ H → va_S (gA G) s.heap H locs → lv_has ls 4 [(0, .ref b), (1, .ref (ga G 0)), (2, .ref (ga G 31)), (3, .int x3)] → K18 x3 μ = some (1, μ') → W p l e room_1 s m #[Value.ref b] below meth c H locs C S (lw_Z below #[Value.ref b] s) (F0 m 18 ls [])) (x3 : Int32) (μ : Mem) (H : Heap) (locs : List Loc) (ls : Array Slot) (hP : Hh G μ H) (hS : va_S (gA G) s.heap H locs) (hl : lv_has ls 4 [(0, .ref b), (1, .ref (ga G 0)), (2, .ref (ga G 31)), (3, .int x3)]) (hf : cL_9 xs L K18 x3 μ = some (1, μ')) : W p l e room_1 s m #[Value.ref b] below meth c H locs C S (lw_Z below #[Value.ref b] s) (F0 m 453 ls []) := by
  unfold cL_9 at hf
  refine lv_aload_n F.1.1 F.1.2.1 dL_law_453 rfl (lv_at hl 1 rfl) ?_
  obtain ⟨r_66, μ_64, hc_65, hf⟩ := bnd_some hf
  refine rV1 (R := room_1) (As := []) (rest := []) F hP hS hl (mX5_peel l G F.2.2.2.2  _ _ _ hc_65) gL_law_X5_peel rfl hdX5_peel rfl rfl rfl ⟨Nat.le_of_ble_eq_true rfl, Nat.le_of_ble_eq_true rfl⟩ (by decide) rfl rfl rfl (Nat.le_of_ble_eq_true rfl) hcs dL_law_454 (fun H locs hP hS => ?_)
  refine lv_aload_n F.1.1 F.1.2.1 dL_law_457 rfl (lv_at hl 2 rfl) ?_
  obtain ⟨r_69, μ_67, hc_68, hf⟩ := bnd_some hf
  refine rV1 (R := room_1) (As := []) (rest := [.int r_66]) F hP hS hl (mX6_peel l G F.2.2.2.2  _ _ _ hc_68) gL_law_X6_peel rfl hdX6_peel rfl rfl rfl ⟨Nat.le_of_ble_eq_true rfl, Nat.le_of_ble_eq_true rfl⟩ (by decide) rfl rfl rfl (Nat.le_of_ble_eq_true rfl) hcs dL_law_458 (fun H locs hP hS => ?_)
  refine jc_eq (tgt := 1134) F dL_law_461 (by decide) hf (fun hf => ?_) (fun hf => ?_)
  · refine top_n hf (fun y_70 ey_70 hf => ?_)
    refine lv_iinc (v := y_70) (lv' := [(3, .int y_70), (0, .ref b), (1, .ref (ga G 0)), (2, .ref (ga G 31))]) F.1.1 F.1.2.1 dL_law_1134 hl (k := 3) rfl ey_70 (by decide) rfl (fun ls hl => ?_)
    refine lv_goto (tgt := 18) F.1.1 F.1.2.1 dL_law_1137 (by decide) ?_
    exact ih18 y_70 μ_67 H locs ls hP hS (lv_sub hl [1, 2, 3, 0] rfl) hf
  · refine lv_iconst (v := (0 : Int32)) F.1.1 F.1.2.1 dL_law_464 (by decide) ?_
    exact absurd hf law_no
set_option maxHeartbeats 4000000 in
set_option maxRecDepth 100000 in
theorem tL_10 (l : Launch) (G : GT) {p : Program} {e : Env} {s : State} {m : MethodId} {below : List Frame} {meth : Method} {c : Code} {b L : Nat} {xs : Nat → Int32} {C S : Nat} {μ' : Mem} (F : Fx p s m #[Value.ref b] meth c cL_law 4 wsL_law RL ret G) (hX : va_X b L xs s s.heap) (hbl : b < s.heap.size) (hbA : ¬ gA G b) (hcs : C ≤ room_1.cells ∧ S ≤ room_1.slots) (K18 : Int32 → Mem → Option (Int32 × Mem)) (ih18 : ∀ (x3 : Int32) (μ : Mem) (H : Heap) (locs : List Loc) (ls : Array Slot), Hh G μ H → va_S (gA G) s.heap H locs → lv_has ls 4 [(0, .ref b), (1, .ref (ga G 0)), (2, .ref (ga G 31)), (3, .int x3)] → K18 x3 μ = some (1, μ') → W p l e room_1 s m #[Value.ref b] below meth c H locs C S (lw_Z below #[Value.ref b] s) (F0 m 18 ls [])) (x3 : Int32) (μ : Mem) (H : Heap) (locs : List Loc) (ls : Array Slot) (hP : Hh G μ H) (hS : va_S (gA G) s.heap H locs) (hl : lv_has ls 4 [(0, .ref b), (1, .ref (ga G 0)), (2, .ref (ga G 31)), (3, .int x3)]) (hf : cL_10 xs L K18 x3 μ = some (1, μ')) : W p l e room_1 s m #[Value.ref b] below meth c H locs C S (lw_Z below #[Value.ref b] s) (F0 m 466 ls []) := by
  unfold cL_10 at hf
  refine lv_aload_n F.1.1 F.1.2.1 dL_law_466 rfl (lv_at hl 1 rfl) ?_
  refine lv_aload_n F.1.1 F.1.2.1 dL_law_467 rfl (lv_at hl 0 rfl) ?_
  refine lv_iload_n F.1.1 F.1.2.1 dL_law_468 rfl (lv_at hl 3 rfl) ?_
  refine lv_iconst (v := (1 : Int32)) F.1.1 F.1.2.1 dL_law_469 (by decide) ?_
  refine lv_iadd F.1.1 F.1.2.1 dL_law_470 ?_
  refine r_sld F hX hbl hbA hS dL_law_471 hf (fun hf => ?_)
  refine lv_aload_n F.1.1 F.1.2.1 dL_law_472 rfl (lv_at hl 0 rfl) ?_
  refine lv_iload_n F.1.1 F.1.2.1 dL_law_473 rfl (lv_at hl 3 rfl) ?_
  refine lv_iconst (v := (2 : Int32)) F.1.1 F.1.2.1 dL_law_474 (by decide) ?_
  refine lv_iadd F.1.1 F.1.2.1 dL_law_475 ?_
  refine r_sld F hX hbl hbA hS dL_law_476 hf (fun hf => ?_)
  refine lv_aload_n F.1.1 F.1.2.1 dL_law_477 rfl (lv_at hl 0 rfl) ?_
  refine lv_iload_n F.1.1 F.1.2.1 dL_law_478 rfl (lv_at hl 3 rfl) ?_
  refine lv_iconst (v := (3 : Int32)) F.1.1 F.1.2.1 dL_law_479 (by decide) ?_
  refine lv_iadd F.1.1 F.1.2.1 dL_law_480 ?_
  refine r_sld F hX hbl hbA hS dL_law_481 hf (fun hf => ?_)
  refine lv_aload_n F.1.1 F.1.2.1 dL_law_482 rfl (lv_at hl 0 rfl) ?_
  refine lv_iload_n F.1.1 F.1.2.1 dL_law_483 rfl (lv_at hl 3 rfl) ?_
  refine lv_iconst (v := (4 : Int32)) F.1.1 F.1.2.1 dL_law_484 (by decide) ?_
  refine lv_iadd F.1.1 F.1.2.1 dL_law_485 ?_
  refine r_sld F hX hbl hbA hS dL_law_486 hf (fun hf => ?_)
  refine lv_aload_n F.1.1 F.1.2.1 dL_law_487 rfl (lv_at hl 0 rfl) ?_
  refine lv_iload_n F.1.1 F.1.2.1 dL_law_488 rfl (lv_at hl 3 rfl) ?_
  refine lv_iconst (v := (5 : Int32)) F.1.1 F.1.2.1 dL_law_489 (by decide) ?_
  refine lv_iadd F.1.1 F.1.2.1 dL_law_490 ?_
  refine r_sld F hX hbl hbA hS dL_law_491 hf (fun hf => ?_)
  obtain ⟨r_73, μ_71, hc_72, hf⟩ := bnd_some hf
  refine rV1 (R := room_1) (As := [.int (xs ((x3 + (1 : Int32))).toNatClampNeg), .int (xs ((x3 + (2 : Int32))).toNatClampNeg), .int (xs ((x3 + (3 : Int32))).toNatClampNeg), .int (xs ((x3 + (4 : Int32))).toNatClampNeg), .int (xs ((x3 + (5 : Int32))).toNatClampNeg)]) (rest := []) F hP hS hl (mX5_days l G F.2.2.2.2 (xs ((x3 + (1 : Int32))).toNatClampNeg) (xs ((x3 + (2 : Int32))).toNatClampNeg) (xs ((x3 + (3 : Int32))).toNatClampNeg) (xs ((x3 + (4 : Int32))).toNatClampNeg) (xs ((x3 + (5 : Int32))).toNatClampNeg) _ _ _ hc_72) gL_law_X5_days rfl hdX5_days rfl rfl rfl ⟨Nat.le_of_ble_eq_true rfl, Nat.le_of_ble_eq_true rfl⟩ (by decide) rfl rfl rfl (Nat.le_of_ble_eq_true rfl) hcs dL_law_492 (fun H locs hP hS => ?_)
  refine lv_aload_n F.1.1 F.1.2.1 dL_law_495 rfl (lv_at hl 2 rfl) ?_
  refine lv_aload_n F.1.1 F.1.2.1 dL_law_496 rfl (lv_at hl 0 rfl) ?_
  refine lv_iload_n F.1.1 F.1.2.1 dL_law_497 rfl (lv_at hl 3 rfl) ?_
  refine lv_iconst (v := (1 : Int32)) F.1.1 F.1.2.1 dL_law_498 (by decide) ?_
  refine lv_iadd F.1.1 F.1.2.1 dL_law_499 ?_
  refine r_sld F hX hbl hbA hS dL_law_500 hf (fun hf => ?_)
  refine lv_aload_n F.1.1 F.1.2.1 dL_law_501 rfl (lv_at hl 0 rfl) ?_
  refine lv_iload_n F.1.1 F.1.2.1 dL_law_502 rfl (lv_at hl 3 rfl) ?_
  refine lv_iconst (v := (2 : Int32)) F.1.1 F.1.2.1 dL_law_503 (by decide) ?_
  refine lv_iadd F.1.1 F.1.2.1 dL_law_504 ?_
  refine r_sld F hX hbl hbA hS dL_law_505 hf (fun hf => ?_)
  refine lv_aload_n F.1.1 F.1.2.1 dL_law_506 rfl (lv_at hl 0 rfl) ?_
  refine lv_iload_n F.1.1 F.1.2.1 dL_law_507 rfl (lv_at hl 3 rfl) ?_
  refine lv_iconst (v := (3 : Int32)) F.1.1 F.1.2.1 dL_law_508 (by decide) ?_
  refine lv_iadd F.1.1 F.1.2.1 dL_law_509 ?_
  refine r_sld F hX hbl hbA hS dL_law_510 hf (fun hf => ?_)
  refine lv_aload_n F.1.1 F.1.2.1 dL_law_511 rfl (lv_at hl 0 rfl) ?_
  refine lv_iload_n F.1.1 F.1.2.1 dL_law_512 rfl (lv_at hl 3 rfl) ?_
  refine lv_iconst (v := (4 : Int32)) F.1.1 F.1.2.1 dL_law_513 (by decide) ?_
  refine lv_iadd F.1.1 F.1.2.1 dL_law_514 ?_
  refine r_sld F hX hbl hbA hS dL_law_515 hf (fun hf => ?_)
  refine lv_aload_n F.1.1 F.1.2.1 dL_law_516 rfl (lv_at hl 0 rfl) ?_
  refine lv_iload_n F.1.1 F.1.2.1 dL_law_517 rfl (lv_at hl 3 rfl) ?_
  refine lv_iconst (v := (5 : Int32)) F.1.1 F.1.2.1 dL_law_518 (by decide) ?_
  refine lv_iadd F.1.1 F.1.2.1 dL_law_519 ?_
  refine r_sld F hX hbl hbA hS dL_law_520 hf (fun hf => ?_)
  obtain ⟨r_76, μ_74, hc_75, hf⟩ := bnd_some hf
  refine rV1 (R := room_1) (As := [.int (xs ((x3 + (1 : Int32))).toNatClampNeg), .int (xs ((x3 + (2 : Int32))).toNatClampNeg), .int (xs ((x3 + (3 : Int32))).toNatClampNeg), .int (xs ((x3 + (4 : Int32))).toNatClampNeg), .int (xs ((x3 + (5 : Int32))).toNatClampNeg)]) (rest := [.int r_73]) F hP hS hl (mX6_days l G F.2.2.2.2 (xs ((x3 + (1 : Int32))).toNatClampNeg) (xs ((x3 + (2 : Int32))).toNatClampNeg) (xs ((x3 + (3 : Int32))).toNatClampNeg) (xs ((x3 + (4 : Int32))).toNatClampNeg) (xs ((x3 + (5 : Int32))).toNatClampNeg) _ _ _ hc_75) gL_law_X6_days rfl hdX6_days rfl rfl rfl ⟨Nat.le_of_ble_eq_true rfl, Nat.le_of_ble_eq_true rfl⟩ (by decide) rfl rfl rfl (Nat.le_of_ble_eq_true rfl) hcs dL_law_521 (fun H locs hP hS => ?_)
  refine jc_eq (tgt := 1134) F dL_law_524 (by decide) hf (fun hf => ?_) (fun hf => ?_)
  · refine top_n hf (fun y_77 ey_77 hf => ?_)
    refine lv_iinc (v := y_77) (lv' := [(3, .int y_77), (0, .ref b), (1, .ref (ga G 0)), (2, .ref (ga G 31))]) F.1.1 F.1.2.1 dL_law_1134 hl (k := 3) rfl ey_77 (by decide) rfl (fun ls hl => ?_)
    refine lv_goto (tgt := 18) F.1.1 F.1.2.1 dL_law_1137 (by decide) ?_
    exact ih18 y_77 μ_74 H locs ls hP hS (lv_sub hl [1, 2, 3, 0] rfl) hf
  · refine lv_iconst (v := (0 : Int32)) F.1.1 F.1.2.1 dL_law_527 (by decide) ?_
    exact absurd hf law_no
set_option maxHeartbeats 4000000 in
set_option maxRecDepth 100000 in
theorem tL_11 (l : Launch) (G : GT) {p : Program} {e : Env} {s : State} {m : MethodId} {below : List Frame} {meth : Method} {c : Code} {b L : Nat} {xs : Nat → Int32} {C S : Nat} {μ' : Mem} (F : Fx p s m #[Value.ref b] meth c cL_law 4 wsL_law RL ret G) (hX : va_X b L xs s s.heap) (hbl : b < s.heap.size) (hbA : ¬ gA G b) (hcs : C ≤ room_1.cells ∧ S ≤ room_1.slots) (K18 : Int32 → Mem → Option (Int32 × Mem)) (ih18 : ∀ (x3 : Int32) (μ : Mem) (H : Heap) (locs : List Loc) (ls : Array Slot), Hh G μ H → va_S (gA G) s.heap H locs → lv_has ls 4 [(0, .ref b), (1, .ref (ga G 0)), (2, .ref (ga G 31)), (3, .int x3)] → K18 x3 μ = some (1, μ') → W p l e room_1 s m #[Value.ref b] below meth c H locs C S (lw_Z below #[Value.ref b] s) (F0 m 18 ls [])) (x3 : Int32) (μ : Mem) (H : Heap) (locs : List Loc) (ls : Array Slot) (hP : Hh G μ H) (hS : va_S (gA G) s.heap H locs) (hl : lv_has ls 4 [(0, .ref b), (1, .ref (ga G 0)), (2, .ref (ga G 31)), (3, .int x3)]) (hf : cL_11 xs L K18 x3 μ = some (1, μ')) : W p l e room_1 s m #[Value.ref b] below meth c H locs C S (lw_Z below #[Value.ref b] s) (F0 m 529 ls []) := by
  unfold cL_11 at hf
  refine lv_aload_n F.1.1 F.1.2.1 dL_law_529 rfl (lv_at hl 1 rfl) ?_
  refine lv_aload_n F.1.1 F.1.2.1 dL_law_530 rfl (lv_at hl 0 rfl) ?_
  refine lv_iload_n F.1.1 F.1.2.1 dL_law_531 rfl (lv_at hl 3 rfl) ?_
  refine lv_iconst (v := (1 : Int32)) F.1.1 F.1.2.1 dL_law_532 (by decide) ?_
  refine lv_iadd F.1.1 F.1.2.1 dL_law_533 ?_
  refine r_sld F hX hbl hbA hS dL_law_534 hf (fun hf => ?_)
  obtain ⟨r_80, μ_78, hc_79, hf⟩ := bnd_some hf
  refine rV1 (R := room_1) (As := [.int (xs ((x3 + (1 : Int32))).toNatClampNeg)]) (rest := []) F hP hS hl (mX5_needs l G F.2.2.2.2 (xs ((x3 + (1 : Int32))).toNatClampNeg) _ _ _ hc_79) gL_law_X5_needs rfl hdX5_needs rfl rfl rfl ⟨Nat.le_of_ble_eq_true rfl, Nat.le_of_ble_eq_true rfl⟩ (by decide) rfl rfl rfl (Nat.le_of_ble_eq_true rfl) hcs dL_law_535 (fun H locs hP hS => ?_)
  refine lv_aload_n F.1.1 F.1.2.1 dL_law_538 rfl (lv_at hl 2 rfl) ?_
  refine lv_aload_n F.1.1 F.1.2.1 dL_law_539 rfl (lv_at hl 0 rfl) ?_
  refine lv_iload_n F.1.1 F.1.2.1 dL_law_540 rfl (lv_at hl 3 rfl) ?_
  refine lv_iconst (v := (1 : Int32)) F.1.1 F.1.2.1 dL_law_541 (by decide) ?_
  refine lv_iadd F.1.1 F.1.2.1 dL_law_542 ?_
  refine r_sld F hX hbl hbA hS dL_law_543 hf (fun hf => ?_)
  obtain ⟨r_83, μ_81, hc_82, hf⟩ := bnd_some hf
  refine rV1 (R := room_1) (As := [.int (xs ((x3 + (1 : Int32))).toNatClampNeg)]) (rest := [.int r_80]) F hP hS hl (mX6_needs l G F.2.2.2.2 (xs ((x3 + (1 : Int32))).toNatClampNeg) _ _ _ hc_82) gL_law_X6_needs rfl hdX6_needs rfl rfl rfl ⟨Nat.le_of_ble_eq_true rfl, Nat.le_of_ble_eq_true rfl⟩ (by decide) rfl rfl rfl (Nat.le_of_ble_eq_true rfl) hcs dL_law_544 (fun H locs hP hS => ?_)
  refine jc_eq (tgt := 1134) F dL_law_547 (by decide) hf (fun hf => ?_) (fun hf => ?_)
  · refine top_n hf (fun y_84 ey_84 hf => ?_)
    refine lv_iinc (v := y_84) (lv' := [(3, .int y_84), (0, .ref b), (1, .ref (ga G 0)), (2, .ref (ga G 31))]) F.1.1 F.1.2.1 dL_law_1134 hl (k := 3) rfl ey_84 (by decide) rfl (fun ls hl => ?_)
    refine lv_goto (tgt := 18) F.1.1 F.1.2.1 dL_law_1137 (by decide) ?_
    exact ih18 y_84 μ_81 H locs ls hP hS (lv_sub hl [1, 2, 3, 0] rfl) hf
  · refine lv_iconst (v := (0 : Int32)) F.1.1 F.1.2.1 dL_law_550 (by decide) ?_
    exact absurd hf law_no
set_option maxHeartbeats 4000000 in
set_option maxRecDepth 100000 in
theorem tL_12 (l : Launch) (G : GT) {p : Program} {e : Env} {s : State} {m : MethodId} {below : List Frame} {meth : Method} {c : Code} {b L : Nat} {xs : Nat → Int32} {C S : Nat} {μ' : Mem} (F : Fx p s m #[Value.ref b] meth c cL_law 4 wsL_law RL ret G) (hX : va_X b L xs s s.heap) (hbl : b < s.heap.size) (hbA : ¬ gA G b) (hcs : C ≤ room_1.cells ∧ S ≤ room_1.slots) (K18 : Int32 → Mem → Option (Int32 × Mem)) (ih18 : ∀ (x3 : Int32) (μ : Mem) (H : Heap) (locs : List Loc) (ls : Array Slot), Hh G μ H → va_S (gA G) s.heap H locs → lv_has ls 4 [(0, .ref b), (1, .ref (ga G 0)), (2, .ref (ga G 31)), (3, .int x3)] → K18 x3 μ = some (1, μ') → W p l e room_1 s m #[Value.ref b] below meth c H locs C S (lw_Z below #[Value.ref b] s) (F0 m 18 ls [])) (x3 : Int32) (μ : Mem) (H : Heap) (locs : List Loc) (ls : Array Slot) (hP : Hh G μ H) (hS : va_S (gA G) s.heap H locs) (hl : lv_has ls 4 [(0, .ref b), (1, .ref (ga G 0)), (2, .ref (ga G 31)), (3, .int x3)]) (hf : cL_12 xs L K18 x3 μ = some (1, μ')) : W p l e room_1 s m #[Value.ref b] below meth c H locs C S (lw_Z below #[Value.ref b] s) (F0 m 552 ls []) := by
  unfold cL_12 at hf
  refine lv_aload_n F.1.1 F.1.2.1 dL_law_552 rfl (lv_at hl 1 rfl) ?_
  refine lv_aload_n F.1.1 F.1.2.1 dL_law_553 rfl (lv_at hl 0 rfl) ?_
  refine lv_iload_n F.1.1 F.1.2.1 dL_law_554 rfl (lv_at hl 3 rfl) ?_
  refine lv_iconst (v := (1 : Int32)) F.1.1 F.1.2.1 dL_law_555 (by decide) ?_
  refine lv_iadd F.1.1 F.1.2.1 dL_law_556 ?_
  refine r_sld F hX hbl hbA hS dL_law_557 hf (fun hf => ?_)
  obtain ⟨r_87, μ_85, hc_86, hf⟩ := bnd_some hf
  refine rV1 (R := room_1) (As := [.int (xs ((x3 + (1 : Int32))).toNatClampNeg)]) (rest := []) F hP hS hl (mX5_gets l G F.2.2.2.2 (xs ((x3 + (1 : Int32))).toNatClampNeg) _ _ _ hc_86) gL_law_X5_gets rfl hdX5_gets rfl rfl rfl ⟨Nat.le_of_ble_eq_true rfl, Nat.le_of_ble_eq_true rfl⟩ (by decide) rfl rfl rfl (Nat.le_of_ble_eq_true rfl) hcs dL_law_558 (fun H locs hP hS => ?_)
  refine lv_aload_n F.1.1 F.1.2.1 dL_law_561 rfl (lv_at hl 2 rfl) ?_
  refine lv_aload_n F.1.1 F.1.2.1 dL_law_562 rfl (lv_at hl 0 rfl) ?_
  refine lv_iload_n F.1.1 F.1.2.1 dL_law_563 rfl (lv_at hl 3 rfl) ?_
  refine lv_iconst (v := (1 : Int32)) F.1.1 F.1.2.1 dL_law_564 (by decide) ?_
  refine lv_iadd F.1.1 F.1.2.1 dL_law_565 ?_
  refine r_sld F hX hbl hbA hS dL_law_566 hf (fun hf => ?_)
  obtain ⟨r_90, μ_88, hc_89, hf⟩ := bnd_some hf
  refine rV1 (R := room_1) (As := [.int (xs ((x3 + (1 : Int32))).toNatClampNeg)]) (rest := [.int r_87]) F hP hS hl (mX6_gets l G F.2.2.2.2 (xs ((x3 + (1 : Int32))).toNatClampNeg) _ _ _ hc_89) gL_law_X6_gets rfl hdX6_gets rfl rfl rfl ⟨Nat.le_of_ble_eq_true rfl, Nat.le_of_ble_eq_true rfl⟩ (by decide) rfl rfl rfl (Nat.le_of_ble_eq_true rfl) hcs dL_law_567 (fun H locs hP hS => ?_)
  refine jc_eq (tgt := 1134) F dL_law_570 (by decide) hf (fun hf => ?_) (fun hf => ?_)
  · refine top_n hf (fun y_91 ey_91 hf => ?_)
    refine lv_iinc (v := y_91) (lv' := [(3, .int y_91), (0, .ref b), (1, .ref (ga G 0)), (2, .ref (ga G 31))]) F.1.1 F.1.2.1 dL_law_1134 hl (k := 3) rfl ey_91 (by decide) rfl (fun ls hl => ?_)
    refine lv_goto (tgt := 18) F.1.1 F.1.2.1 dL_law_1137 (by decide) ?_
    exact ih18 y_91 μ_88 H locs ls hP hS (lv_sub hl [1, 2, 3, 0] rfl) hf
  · refine lv_iconst (v := (0 : Int32)) F.1.1 F.1.2.1 dL_law_573 (by decide) ?_
    exact absurd hf law_no
set_option maxHeartbeats 4000000 in
set_option maxRecDepth 100000 in
theorem tL_13 (l : Launch) (G : GT) {p : Program} {e : Env} {s : State} {m : MethodId} {below : List Frame} {meth : Method} {c : Code} {b L : Nat} {xs : Nat → Int32} {C S : Nat} {μ' : Mem} (F : Fx p s m #[Value.ref b] meth c cL_law 4 wsL_law RL ret G) (hX : va_X b L xs s s.heap) (hbl : b < s.heap.size) (hbA : ¬ gA G b) (hcs : C ≤ room_1.cells ∧ S ≤ room_1.slots) (K18 : Int32 → Mem → Option (Int32 × Mem)) (ih18 : ∀ (x3 : Int32) (μ : Mem) (H : Heap) (locs : List Loc) (ls : Array Slot), Hh G μ H → va_S (gA G) s.heap H locs → lv_has ls 4 [(0, .ref b), (1, .ref (ga G 0)), (2, .ref (ga G 31)), (3, .int x3)] → K18 x3 μ = some (1, μ') → W p l e room_1 s m #[Value.ref b] below meth c H locs C S (lw_Z below #[Value.ref b] s) (F0 m 18 ls [])) (x3 : Int32) (μ : Mem) (H : Heap) (locs : List Loc) (ls : Array Slot) (hP : Hh G μ H) (hS : va_S (gA G) s.heap H locs) (hl : lv_has ls 4 [(0, .ref b), (1, .ref (ga G 0)), (2, .ref (ga G 31)), (3, .int x3)]) (hf : cL_13 xs L K18 x3 μ = some (1, μ')) : W p l e room_1 s m #[Value.ref b] below meth c H locs C S (lw_Z below #[Value.ref b] s) (F0 m 575 ls []) := by
  unfold cL_13 at hf
  refine lv_aload_n F.1.1 F.1.2.1 dL_law_575 rfl (lv_at hl 1 rfl) ?_
  refine lv_aload_n F.1.1 F.1.2.1 dL_law_576 rfl (lv_at hl 0 rfl) ?_
  refine lv_iload_n F.1.1 F.1.2.1 dL_law_577 rfl (lv_at hl 3 rfl) ?_
  refine lv_iconst (v := (1 : Int32)) F.1.1 F.1.2.1 dL_law_578 (by decide) ?_
  refine lv_iadd F.1.1 F.1.2.1 dL_law_579 ?_
  refine r_sld F hX hbl hbA hS dL_law_580 hf (fun hf => ?_)
  obtain ⟨r_94, μ_92, hc_93, hf⟩ := bnd_some hf
  refine rV1 (R := room_1) (As := [.int (xs ((x3 + (1 : Int32))).toNatClampNeg)]) (rest := []) F hP hS hl (mX5_without l G F.2.2.2.2 (xs ((x3 + (1 : Int32))).toNatClampNeg) _ _ _ hc_93) gL_law_X5_without rfl hdX5_without rfl rfl rfl ⟨Nat.le_of_ble_eq_true rfl, Nat.le_of_ble_eq_true rfl⟩ (by decide) rfl rfl rfl (Nat.le_of_ble_eq_true rfl) hcs dL_law_581 (fun H locs hP hS => ?_)
  refine lv_aload_n F.1.1 F.1.2.1 dL_law_584 rfl (lv_at hl 2 rfl) ?_
  refine lv_aload_n F.1.1 F.1.2.1 dL_law_585 rfl (lv_at hl 0 rfl) ?_
  refine lv_iload_n F.1.1 F.1.2.1 dL_law_586 rfl (lv_at hl 3 rfl) ?_
  refine lv_iconst (v := (1 : Int32)) F.1.1 F.1.2.1 dL_law_587 (by decide) ?_
  refine lv_iadd F.1.1 F.1.2.1 dL_law_588 ?_
  refine r_sld F hX hbl hbA hS dL_law_589 hf (fun hf => ?_)
  obtain ⟨r_97, μ_95, hc_96, hf⟩ := bnd_some hf
  refine rV1 (R := room_1) (As := [.int (xs ((x3 + (1 : Int32))).toNatClampNeg)]) (rest := [.int r_94]) F hP hS hl (mX6_without l G F.2.2.2.2 (xs ((x3 + (1 : Int32))).toNatClampNeg) _ _ _ hc_96) gL_law_X6_without rfl hdX6_without rfl rfl rfl ⟨Nat.le_of_ble_eq_true rfl, Nat.le_of_ble_eq_true rfl⟩ (by decide) rfl rfl rfl (Nat.le_of_ble_eq_true rfl) hcs dL_law_590 (fun H locs hP hS => ?_)
  refine jc_eq (tgt := 1134) F dL_law_593 (by decide) hf (fun hf => ?_) (fun hf => ?_)
  · refine top_n hf (fun y_98 ey_98 hf => ?_)
    refine lv_iinc (v := y_98) (lv' := [(3, .int y_98), (0, .ref b), (1, .ref (ga G 0)), (2, .ref (ga G 31))]) F.1.1 F.1.2.1 dL_law_1134 hl (k := 3) rfl ey_98 (by decide) rfl (fun ls hl => ?_)
    refine lv_goto (tgt := 18) F.1.1 F.1.2.1 dL_law_1137 (by decide) ?_
    exact ih18 y_98 μ_95 H locs ls hP hS (lv_sub hl [1, 2, 3, 0] rfl) hf
  · refine lv_iconst (v := (0 : Int32)) F.1.1 F.1.2.1 dL_law_596 (by decide) ?_
    exact absurd hf law_no
set_option maxHeartbeats 4000000 in
set_option maxRecDepth 100000 in
theorem tL_14 (l : Launch) (G : GT) {p : Program} {e : Env} {s : State} {m : MethodId} {below : List Frame} {meth : Method} {c : Code} {b L : Nat} {xs : Nat → Int32} {C S : Nat} {μ' : Mem} (F : Fx p s m #[Value.ref b] meth c cL_law 4 wsL_law RL ret G) (hX : va_X b L xs s s.heap) (hbl : b < s.heap.size) (hbA : ¬ gA G b) (hcs : C ≤ room_1.cells ∧ S ≤ room_1.slots) (K18 : Int32 → Mem → Option (Int32 × Mem)) (ih18 : ∀ (x3 : Int32) (μ : Mem) (H : Heap) (locs : List Loc) (ls : Array Slot), Hh G μ H → va_S (gA G) s.heap H locs → lv_has ls 4 [(0, .ref b), (1, .ref (ga G 0)), (2, .ref (ga G 31)), (3, .int x3)] → K18 x3 μ = some (1, μ') → W p l e room_1 s m #[Value.ref b] below meth c H locs C S (lw_Z below #[Value.ref b] s) (F0 m 18 ls [])) (x3 : Int32) (μ : Mem) (H : Heap) (locs : List Loc) (ls : Array Slot) (hP : Hh G μ H) (hS : va_S (gA G) s.heap H locs) (hl : lv_has ls 4 [(0, .ref b), (1, .ref (ga G 0)), (2, .ref (ga G 31)), (3, .int x3)]) (hf : cL_14 xs L K18 x3 μ = some (1, μ')) : W p l e room_1 s m #[Value.ref b] below meth c H locs C S (lw_Z below #[Value.ref b] s) (F0 m 598 ls []) := by
  unfold cL_14 at hf
  refine lv_aload_n F.1.1 F.1.2.1 dL_law_598 rfl (lv_at hl 1 rfl) ?_
  refine lv_aload_n F.1.1 F.1.2.1 dL_law_599 rfl (lv_at hl 0 rfl) ?_
  refine lv_iload_n F.1.1 F.1.2.1 dL_law_600 rfl (lv_at hl 3 rfl) ?_
  refine lv_iconst (v := (1 : Int32)) F.1.1 F.1.2.1 dL_law_601 (by decide) ?_
  refine lv_iadd F.1.1 F.1.2.1 dL_law_602 ?_
  refine r_sld F hX hbl hbA hS dL_law_603 hf (fun hf => ?_)
  refine lv_aload_n F.1.1 F.1.2.1 dL_law_604 rfl (lv_at hl 0 rfl) ?_
  refine lv_iload_n F.1.1 F.1.2.1 dL_law_605 rfl (lv_at hl 3 rfl) ?_
  refine lv_iconst (v := (2 : Int32)) F.1.1 F.1.2.1 dL_law_606 (by decide) ?_
  refine lv_iadd F.1.1 F.1.2.1 dL_law_607 ?_
  refine r_sld F hX hbl hbA hS dL_law_608 hf (fun hf => ?_)
  refine lv_aload_n F.1.1 F.1.2.1 dL_law_609 rfl (lv_at hl 0 rfl) ?_
  refine lv_iload_n F.1.1 F.1.2.1 dL_law_610 rfl (lv_at hl 3 rfl) ?_
  refine lv_iconst (v := (3 : Int32)) F.1.1 F.1.2.1 dL_law_611 (by decide) ?_
  refine lv_iadd F.1.1 F.1.2.1 dL_law_612 ?_
  refine r_sld F hX hbl hbA hS dL_law_613 hf (fun hf => ?_)
  obtain ⟨r_101, μ_99, hc_100, hf⟩ := bnd_some hf
  refine rV1 (R := room_1) (As := [.int (xs ((x3 + (1 : Int32))).toNatClampNeg), .int (xs ((x3 + (2 : Int32))).toNatClampNeg), .int (xs ((x3 + (3 : Int32))).toNatClampNeg)]) (rest := []) F hP hS hl (mX5_reading l G F.2.2.2.2 (xs ((x3 + (1 : Int32))).toNatClampNeg) (xs ((x3 + (2 : Int32))).toNatClampNeg) (xs ((x3 + (3 : Int32))).toNatClampNeg) _ _ _ hc_100) gL_law_X5_reading rfl hdX5_reading rfl rfl rfl ⟨Nat.le_of_ble_eq_true rfl, Nat.le_of_ble_eq_true rfl⟩ (by decide) rfl rfl rfl (Nat.le_of_ble_eq_true rfl) hcs dL_law_614 (fun H locs hP hS => ?_)
  refine lv_aload_n F.1.1 F.1.2.1 dL_law_617 rfl (lv_at hl 2 rfl) ?_
  refine lv_aload_n F.1.1 F.1.2.1 dL_law_618 rfl (lv_at hl 0 rfl) ?_
  refine lv_iload_n F.1.1 F.1.2.1 dL_law_619 rfl (lv_at hl 3 rfl) ?_
  refine lv_iconst (v := (1 : Int32)) F.1.1 F.1.2.1 dL_law_620 (by decide) ?_
  refine lv_iadd F.1.1 F.1.2.1 dL_law_621 ?_
  refine r_sld F hX hbl hbA hS dL_law_622 hf (fun hf => ?_)
  refine lv_aload_n F.1.1 F.1.2.1 dL_law_623 rfl (lv_at hl 0 rfl) ?_
  refine lv_iload_n F.1.1 F.1.2.1 dL_law_624 rfl (lv_at hl 3 rfl) ?_
  refine lv_iconst (v := (2 : Int32)) F.1.1 F.1.2.1 dL_law_625 (by decide) ?_
  refine lv_iadd F.1.1 F.1.2.1 dL_law_626 ?_
  refine r_sld F hX hbl hbA hS dL_law_627 hf (fun hf => ?_)
  refine lv_aload_n F.1.1 F.1.2.1 dL_law_628 rfl (lv_at hl 0 rfl) ?_
  refine lv_iload_n F.1.1 F.1.2.1 dL_law_629 rfl (lv_at hl 3 rfl) ?_
  refine lv_iconst (v := (3 : Int32)) F.1.1 F.1.2.1 dL_law_630 (by decide) ?_
  refine lv_iadd F.1.1 F.1.2.1 dL_law_631 ?_
  refine r_sld F hX hbl hbA hS dL_law_632 hf (fun hf => ?_)
  obtain ⟨r_104, μ_102, hc_103, hf⟩ := bnd_some hf
  refine rV1 (R := room_1) (As := [.int (xs ((x3 + (1 : Int32))).toNatClampNeg), .int (xs ((x3 + (2 : Int32))).toNatClampNeg), .int (xs ((x3 + (3 : Int32))).toNatClampNeg)]) (rest := [.int r_101]) F hP hS hl (mX6_reading l G F.2.2.2.2 (xs ((x3 + (1 : Int32))).toNatClampNeg) (xs ((x3 + (2 : Int32))).toNatClampNeg) (xs ((x3 + (3 : Int32))).toNatClampNeg) _ _ _ hc_103) gL_law_X6_reading rfl hdX6_reading rfl rfl rfl ⟨Nat.le_of_ble_eq_true rfl, Nat.le_of_ble_eq_true rfl⟩ (by decide) rfl rfl rfl (Nat.le_of_ble_eq_true rfl) hcs dL_law_633 (fun H locs hP hS => ?_)
  refine jc_eq (tgt := 1134) F dL_law_636 (by decide) hf (fun hf => ?_) (fun hf => ?_)
  · refine top_n hf (fun y_105 ey_105 hf => ?_)
    refine lv_iinc (v := y_105) (lv' := [(3, .int y_105), (0, .ref b), (1, .ref (ga G 0)), (2, .ref (ga G 31))]) F.1.1 F.1.2.1 dL_law_1134 hl (k := 3) rfl ey_105 (by decide) rfl (fun ls hl => ?_)
    refine lv_goto (tgt := 18) F.1.1 F.1.2.1 dL_law_1137 (by decide) ?_
    exact ih18 y_105 μ_102 H locs ls hP hS (lv_sub hl [1, 2, 3, 0] rfl) hf
  · refine lv_iconst (v := (0 : Int32)) F.1.1 F.1.2.1 dL_law_639 (by decide) ?_
    exact absurd hf law_no
set_option maxHeartbeats 4000000 in
set_option maxRecDepth 100000 in
theorem tL_15 (l : Launch) (G : GT) {p : Program} {e : Env} {s : State} {m : MethodId} {below : List Frame} {meth : Method} {c : Code} {b L : Nat} {xs : Nat → Int32} {C S : Nat} {μ' : Mem} (F : Fx p s m #[Value.ref b] meth c cL_law 4 wsL_law RL ret G) (hX : va_X b L xs s s.heap) (hbl : b < s.heap.size) (hbA : ¬ gA G b) (hcs : C ≤ room_1.cells ∧ S ≤ room_1.slots) (K18 : Int32 → Mem → Option (Int32 × Mem)) (ih18 : ∀ (x3 : Int32) (μ : Mem) (H : Heap) (locs : List Loc) (ls : Array Slot), Hh G μ H → va_S (gA G) s.heap H locs → lv_has ls 4 [(0, .ref b), (1, .ref (ga G 0)), (2, .ref (ga G 31)), (3, .int x3)] → K18 x3 μ = some (1, μ') → W p l e room_1 s m #[Value.ref b] below meth c H locs C S (lw_Z below #[Value.ref b] s) (F0 m 18 ls [])) (x3 : Int32) (μ : Mem) (H : Heap) (locs : List Loc) (ls : Array Slot) (hP : Hh G μ H) (hS : va_S (gA G) s.heap H locs) (hl : lv_has ls 4 [(0, .ref b), (1, .ref (ga G 0)), (2, .ref (ga G 31)), (3, .int x3)]) (hf : cL_15 xs L K18 x3 μ = some (1, μ')) : W p l e room_1 s m #[Value.ref b] below meth c H locs C S (lw_Z below #[Value.ref b] s) (F0 m 641 ls []) := by
  unfold cL_15 at hf
  refine lv_aload_n F.1.1 F.1.2.1 dL_law_641 rfl (lv_at hl 1 rfl) ?_
  refine lv_aload_n F.1.1 F.1.2.1 dL_law_642 rfl (lv_at hl 0 rfl) ?_
  refine lv_iload_n F.1.1 F.1.2.1 dL_law_643 rfl (lv_at hl 3 rfl) ?_
  refine lv_iconst (v := (1 : Int32)) F.1.1 F.1.2.1 dL_law_644 (by decide) ?_
  refine lv_iadd F.1.1 F.1.2.1 dL_law_645 ?_
  refine r_sld F hX hbl hbA hS dL_law_646 hf (fun hf => ?_)
  obtain ⟨r_108, μ_106, hc_107, hf⟩ := bnd_some hf
  refine rV1 (R := room_1) (As := [.int (xs ((x3 + (1 : Int32))).toNatClampNeg)]) (rest := []) F hP hS hl (mX5_back l G F.2.2.2.2 (xs ((x3 + (1 : Int32))).toNatClampNeg) _ _ _ hc_107) gL_law_X5_back rfl hdX5_back rfl rfl rfl ⟨Nat.le_of_ble_eq_true rfl, Nat.le_of_ble_eq_true rfl⟩ (by decide) rfl rfl rfl (Nat.le_of_ble_eq_true rfl) hcs dL_law_647 (fun H locs hP hS => ?_)
  refine lv_aload_n F.1.1 F.1.2.1 dL_law_650 rfl (lv_at hl 2 rfl) ?_
  refine lv_aload_n F.1.1 F.1.2.1 dL_law_651 rfl (lv_at hl 0 rfl) ?_
  refine lv_iload_n F.1.1 F.1.2.1 dL_law_652 rfl (lv_at hl 3 rfl) ?_
  refine lv_iconst (v := (1 : Int32)) F.1.1 F.1.2.1 dL_law_653 (by decide) ?_
  refine lv_iadd F.1.1 F.1.2.1 dL_law_654 ?_
  refine r_sld F hX hbl hbA hS dL_law_655 hf (fun hf => ?_)
  obtain ⟨r_111, μ_109, hc_110, hf⟩ := bnd_some hf
  refine rV1 (R := room_1) (As := [.int (xs ((x3 + (1 : Int32))).toNatClampNeg)]) (rest := [.int r_108]) F hP hS hl (mX6_back l G F.2.2.2.2 (xs ((x3 + (1 : Int32))).toNatClampNeg) _ _ _ hc_110) gL_law_X6_back rfl hdX6_back rfl rfl rfl ⟨Nat.le_of_ble_eq_true rfl, Nat.le_of_ble_eq_true rfl⟩ (by decide) rfl rfl rfl (Nat.le_of_ble_eq_true rfl) hcs dL_law_656 (fun H locs hP hS => ?_)
  refine jc_eq (tgt := 1134) F dL_law_659 (by decide) hf (fun hf => ?_) (fun hf => ?_)
  · refine top_n hf (fun y_112 ey_112 hf => ?_)
    refine lv_iinc (v := y_112) (lv' := [(3, .int y_112), (0, .ref b), (1, .ref (ga G 0)), (2, .ref (ga G 31))]) F.1.1 F.1.2.1 dL_law_1134 hl (k := 3) rfl ey_112 (by decide) rfl (fun ls hl => ?_)
    refine lv_goto (tgt := 18) F.1.1 F.1.2.1 dL_law_1137 (by decide) ?_
    exact ih18 y_112 μ_109 H locs ls hP hS (lv_sub hl [1, 2, 3, 0] rfl) hf
  · refine lv_iconst (v := (0 : Int32)) F.1.1 F.1.2.1 dL_law_662 (by decide) ?_
    exact absurd hf law_no
set_option maxHeartbeats 4000000 in
set_option maxRecDepth 100000 in
theorem tL_16 (l : Launch) (G : GT) {p : Program} {e : Env} {s : State} {m : MethodId} {below : List Frame} {meth : Method} {c : Code} {b L : Nat} {xs : Nat → Int32} {C S : Nat} {μ' : Mem} (F : Fx p s m #[Value.ref b] meth c cL_law 4 wsL_law RL ret G) (hX : va_X b L xs s s.heap) (hbl : b < s.heap.size) (hbA : ¬ gA G b) (hcs : C ≤ room_1.cells ∧ S ≤ room_1.slots) (K18 : Int32 → Mem → Option (Int32 × Mem)) (ih18 : ∀ (x3 : Int32) (μ : Mem) (H : Heap) (locs : List Loc) (ls : Array Slot), Hh G μ H → va_S (gA G) s.heap H locs → lv_has ls 4 [(0, .ref b), (1, .ref (ga G 0)), (2, .ref (ga G 31)), (3, .int x3)] → K18 x3 μ = some (1, μ') → W p l e room_1 s m #[Value.ref b] below meth c H locs C S (lw_Z below #[Value.ref b] s) (F0 m 18 ls [])) (x3 : Int32) (μ : Mem) (H : Heap) (locs : List Loc) (ls : Array Slot) (hP : Hh G μ H) (hS : va_S (gA G) s.heap H locs) (hl : lv_has ls 4 [(0, .ref b), (1, .ref (ga G 0)), (2, .ref (ga G 31)), (3, .int x3)]) (hf : cL_16 xs L K18 x3 μ = some (1, μ')) : W p l e room_1 s m #[Value.ref b] below meth c H locs C S (lw_Z below #[Value.ref b] s) (F0 m 664 ls []) := by
  unfold cL_16 at hf
  refine lv_aload_n F.1.1 F.1.2.1 dL_law_664 rfl (lv_at hl 1 rfl) ?_
  refine lv_aload_n F.1.1 F.1.2.1 dL_law_665 rfl (lv_at hl 0 rfl) ?_
  refine lv_iload_n F.1.1 F.1.2.1 dL_law_666 rfl (lv_at hl 3 rfl) ?_
  refine lv_iconst (v := (1 : Int32)) F.1.1 F.1.2.1 dL_law_667 (by decide) ?_
  refine lv_iadd F.1.1 F.1.2.1 dL_law_668 ?_
  refine r_sld F hX hbl hbA hS dL_law_669 hf (fun hf => ?_)
  obtain ⟨r_115, μ_113, hc_114, hf⟩ := bnd_some hf
  refine rV1 (R := room_1) (As := [.int (xs ((x3 + (1 : Int32))).toNatClampNeg)]) (rest := []) F hP hS hl (mX5_orders l G F.2.2.2.2 (xs ((x3 + (1 : Int32))).toNatClampNeg) _ _ _ hc_114) gL_law_X5_orders rfl hdX5_orders rfl rfl rfl ⟨Nat.le_of_ble_eq_true rfl, Nat.le_of_ble_eq_true rfl⟩ (by decide) rfl rfl rfl (Nat.le_of_ble_eq_true rfl) hcs dL_law_670 (fun H locs hP hS => ?_)
  refine lv_aload_n F.1.1 F.1.2.1 dL_law_673 rfl (lv_at hl 2 rfl) ?_
  refine lv_aload_n F.1.1 F.1.2.1 dL_law_674 rfl (lv_at hl 0 rfl) ?_
  refine lv_iload_n F.1.1 F.1.2.1 dL_law_675 rfl (lv_at hl 3 rfl) ?_
  refine lv_iconst (v := (1 : Int32)) F.1.1 F.1.2.1 dL_law_676 (by decide) ?_
  refine lv_iadd F.1.1 F.1.2.1 dL_law_677 ?_
  refine r_sld F hX hbl hbA hS dL_law_678 hf (fun hf => ?_)
  obtain ⟨r_118, μ_116, hc_117, hf⟩ := bnd_some hf
  refine rV1 (R := room_1) (As := [.int (xs ((x3 + (1 : Int32))).toNatClampNeg)]) (rest := [.int r_115]) F hP hS hl (mX6_orders l G F.2.2.2.2 (xs ((x3 + (1 : Int32))).toNatClampNeg) _ _ _ hc_117) gL_law_X6_orders rfl hdX6_orders rfl rfl rfl ⟨Nat.le_of_ble_eq_true rfl, Nat.le_of_ble_eq_true rfl⟩ (by decide) rfl rfl rfl (Nat.le_of_ble_eq_true rfl) hcs dL_law_679 (fun H locs hP hS => ?_)
  refine jc_eq (tgt := 1134) F dL_law_682 (by decide) hf (fun hf => ?_) (fun hf => ?_)
  · refine top_n hf (fun y_119 ey_119 hf => ?_)
    refine lv_iinc (v := y_119) (lv' := [(3, .int y_119), (0, .ref b), (1, .ref (ga G 0)), (2, .ref (ga G 31))]) F.1.1 F.1.2.1 dL_law_1134 hl (k := 3) rfl ey_119 (by decide) rfl (fun ls hl => ?_)
    refine lv_goto (tgt := 18) F.1.1 F.1.2.1 dL_law_1137 (by decide) ?_
    exact ih18 y_119 μ_116 H locs ls hP hS (lv_sub hl [1, 2, 3, 0] rfl) hf
  · refine lv_iconst (v := (0 : Int32)) F.1.1 F.1.2.1 dL_law_685 (by decide) ?_
    exact absurd hf law_no
set_option maxHeartbeats 4000000 in
set_option maxRecDepth 100000 in
theorem tL_17 (l : Launch) (G : GT) {p : Program} {e : Env} {s : State} {m : MethodId} {below : List Frame} {meth : Method} {c : Code} {b L : Nat} {xs : Nat → Int32} {C S : Nat} {μ' : Mem} (F : Fx p s m #[Value.ref b] meth c cL_law 4 wsL_law RL ret G) (hX : va_X b L xs s s.heap) (hbl : b < s.heap.size) (hbA : ¬ gA G b) (hcs : C ≤ room_1.cells ∧ S ≤ room_1.slots) (K18 : Int32 → Mem → Option (Int32 × Mem)) (ih18 : ∀ (x3 : Int32) (μ : Mem) (H : Heap) (locs : List Loc) (ls : Array Slot), Hh G μ H → va_S (gA G) s.heap H locs → lv_has ls 4 [(0, .ref b), (1, .ref (ga G 0)), (2, .ref (ga G 31)), (3, .int x3)] → K18 x3 μ = some (1, μ') → W p l e room_1 s m #[Value.ref b] below meth c H locs C S (lw_Z below #[Value.ref b] s) (F0 m 18 ls [])) (x3 : Int32) (μ : Mem) (H : Heap) (locs : List Loc) (ls : Array Slot) (hP : Hh G μ H) (hS : va_S (gA G) s.heap H locs) (hl : lv_has ls 4 [(0, .ref b), (1, .ref (ga G 0)), (2, .ref (ga G 31)), (3, .int x3)]) (hf : cL_17 xs L K18 x3 μ = some (1, μ')) : W p l e room_1 s m #[Value.ref b] below meth c H locs C S (lw_Z below #[Value.ref b] s) (F0 m 687 ls []) := by
  unfold cL_17 at hf
  refine lv_aload_n F.1.1 F.1.2.1 dL_law_687 rfl (lv_at hl 1 rfl) ?_
  refine lv_aload_n F.1.1 F.1.2.1 dL_law_688 rfl (lv_at hl 0 rfl) ?_
  refine lv_iload_n F.1.1 F.1.2.1 dL_law_689 rfl (lv_at hl 3 rfl) ?_
  refine lv_iconst (v := (1 : Int32)) F.1.1 F.1.2.1 dL_law_690 (by decide) ?_
  refine lv_iadd F.1.1 F.1.2.1 dL_law_691 ?_
  refine r_sld F hX hbl hbA hS dL_law_692 hf (fun hf => ?_)
  obtain ⟨r_122, μ_120, hc_121, hf⟩ := bnd_some hf
  refine rV1 (R := room_1) (As := [.int (xs ((x3 + (1 : Int32))).toNatClampNeg)]) (rest := []) F hP hS hl (mX5_holds l G F.2.2.2.2 (xs ((x3 + (1 : Int32))).toNatClampNeg) _ _ _ hc_121) gL_law_X5_holds rfl hdX5_holds rfl rfl rfl ⟨Nat.le_of_ble_eq_true rfl, Nat.le_of_ble_eq_true rfl⟩ (by decide) rfl rfl rfl (Nat.le_of_ble_eq_true rfl) hcs dL_law_693 (fun H locs hP hS => ?_)
  refine lv_aload_n F.1.1 F.1.2.1 dL_law_696 rfl (lv_at hl 2 rfl) ?_
  refine lv_aload_n F.1.1 F.1.2.1 dL_law_697 rfl (lv_at hl 0 rfl) ?_
  refine lv_iload_n F.1.1 F.1.2.1 dL_law_698 rfl (lv_at hl 3 rfl) ?_
  refine lv_iconst (v := (1 : Int32)) F.1.1 F.1.2.1 dL_law_699 (by decide) ?_
  refine lv_iadd F.1.1 F.1.2.1 dL_law_700 ?_
  refine r_sld F hX hbl hbA hS dL_law_701 hf (fun hf => ?_)
  obtain ⟨r_125, μ_123, hc_124, hf⟩ := bnd_some hf
  refine rV1 (R := room_1) (As := [.int (xs ((x3 + (1 : Int32))).toNatClampNeg)]) (rest := [.int r_122]) F hP hS hl (mX6_holds l G F.2.2.2.2 (xs ((x3 + (1 : Int32))).toNatClampNeg) _ _ _ hc_124) gL_law_X6_holds rfl hdX6_holds rfl rfl rfl ⟨Nat.le_of_ble_eq_true rfl, Nat.le_of_ble_eq_true rfl⟩ (by decide) rfl rfl rfl (Nat.le_of_ble_eq_true rfl) hcs dL_law_702 (fun H locs hP hS => ?_)
  refine jc_eq (tgt := 1134) F dL_law_705 (by decide) hf (fun hf => ?_) (fun hf => ?_)
  · refine top_n hf (fun y_126 ey_126 hf => ?_)
    refine lv_iinc (v := y_126) (lv' := [(3, .int y_126), (0, .ref b), (1, .ref (ga G 0)), (2, .ref (ga G 31))]) F.1.1 F.1.2.1 dL_law_1134 hl (k := 3) rfl ey_126 (by decide) rfl (fun ls hl => ?_)
    refine lv_goto (tgt := 18) F.1.1 F.1.2.1 dL_law_1137 (by decide) ?_
    exact ih18 y_126 μ_123 H locs ls hP hS (lv_sub hl [1, 2, 3, 0] rfl) hf
  · refine lv_iconst (v := (0 : Int32)) F.1.1 F.1.2.1 dL_law_708 (by decide) ?_
    exact absurd hf law_no
set_option maxHeartbeats 4000000 in
set_option maxRecDepth 100000 in
theorem tL_18 (l : Launch) (G : GT) {p : Program} {e : Env} {s : State} {m : MethodId} {below : List Frame} {meth : Method} {c : Code} {b L : Nat} {xs : Nat → Int32} {C S : Nat} {μ' : Mem} (F : Fx p s m #[Value.ref b] meth c cL_law 4 wsL_law RL ret G) (hX : va_X b L xs s s.heap) (hbl : b < s.heap.size) (hbA : ¬ gA G b) (hcs : C ≤ room_1.cells ∧ S ≤ room_1.slots) (K18 : Int32 → Mem → Option (Int32 × Mem)) (ih18 : ∀ (x3 : Int32) (μ : Mem) (H : Heap) (locs : List Loc) (ls : Array Slot), Hh G μ H → va_S (gA G) s.heap H locs → lv_has ls 4 [(0, .ref b), (1, .ref (ga G 0)), (2, .ref (ga G 31)), (3, .int x3)] → K18 x3 μ = some (1, μ') → W p l e room_1 s m #[Value.ref b] below meth c H locs C S (lw_Z below #[Value.ref b] s) (F0 m 18 ls [])) (x3 : Int32) (μ : Mem) (H : Heap) (locs : List Loc) (ls : Array Slot) (hP : Hh G μ H) (hS : va_S (gA G) s.heap H locs) (hl : lv_has ls 4 [(0, .ref b), (1, .ref (ga G 0)), (2, .ref (ga G 31)), (3, .int x3)]) (hf : cL_18 xs L K18 x3 μ = some (1, μ')) : W p l e room_1 s m #[Value.ref b] below meth c H locs C S (lw_Z below #[Value.ref b] s) (F0 m 710 ls []) := by
  unfold cL_18 at hf
  refine lv_aload_n F.1.1 F.1.2.1 dL_law_710 rfl (lv_at hl 1 rfl) ?_
  refine lv_aload_n F.1.1 F.1.2.1 dL_law_711 rfl (lv_at hl 0 rfl) ?_
  refine lv_iload_n F.1.1 F.1.2.1 dL_law_712 rfl (lv_at hl 3 rfl) ?_
  refine lv_iconst (v := (1 : Int32)) F.1.1 F.1.2.1 dL_law_713 (by decide) ?_
  refine lv_iadd F.1.1 F.1.2.1 dL_law_714 ?_
  refine r_sld F hX hbl hbA hS dL_law_715 hf (fun hf => ?_)
  obtain ⟨r_129, μ_127, hc_128, hf⟩ := bnd_some hf
  refine rV1 (R := room_1) (As := [.int (xs ((x3 + (1 : Int32))).toNatClampNeg)]) (rest := []) F hP hS hl (mX5_advices l G F.2.2.2.2 (xs ((x3 + (1 : Int32))).toNatClampNeg) _ _ _ hc_128) gL_law_X5_advices rfl hdX5_advices rfl rfl rfl ⟨Nat.le_of_ble_eq_true rfl, Nat.le_of_ble_eq_true rfl⟩ (by decide) rfl rfl rfl (Nat.le_of_ble_eq_true rfl) hcs dL_law_716 (fun H locs hP hS => ?_)
  refine lv_aload_n F.1.1 F.1.2.1 dL_law_719 rfl (lv_at hl 2 rfl) ?_
  refine lv_aload_n F.1.1 F.1.2.1 dL_law_720 rfl (lv_at hl 0 rfl) ?_
  refine lv_iload_n F.1.1 F.1.2.1 dL_law_721 rfl (lv_at hl 3 rfl) ?_
  refine lv_iconst (v := (1 : Int32)) F.1.1 F.1.2.1 dL_law_722 (by decide) ?_
  refine lv_iadd F.1.1 F.1.2.1 dL_law_723 ?_
  refine r_sld F hX hbl hbA hS dL_law_724 hf (fun hf => ?_)
  obtain ⟨r_132, μ_130, hc_131, hf⟩ := bnd_some hf
  refine rV1 (R := room_1) (As := [.int (xs ((x3 + (1 : Int32))).toNatClampNeg)]) (rest := [.int r_129]) F hP hS hl (mX6_advices l G F.2.2.2.2 (xs ((x3 + (1 : Int32))).toNatClampNeg) _ _ _ hc_131) gL_law_X6_advices rfl hdX6_advices rfl rfl rfl ⟨Nat.le_of_ble_eq_true rfl, Nat.le_of_ble_eq_true rfl⟩ (by decide) rfl rfl rfl (Nat.le_of_ble_eq_true rfl) hcs dL_law_725 (fun H locs hP hS => ?_)
  refine jc_eq (tgt := 1134) F dL_law_728 (by decide) hf (fun hf => ?_) (fun hf => ?_)
  · refine top_n hf (fun y_133 ey_133 hf => ?_)
    refine lv_iinc (v := y_133) (lv' := [(3, .int y_133), (0, .ref b), (1, .ref (ga G 0)), (2, .ref (ga G 31))]) F.1.1 F.1.2.1 dL_law_1134 hl (k := 3) rfl ey_133 (by decide) rfl (fun ls hl => ?_)
    refine lv_goto (tgt := 18) F.1.1 F.1.2.1 dL_law_1137 (by decide) ?_
    exact ih18 y_133 μ_130 H locs ls hP hS (lv_sub hl [1, 2, 3, 0] rfl) hf
  · refine lv_iconst (v := (0 : Int32)) F.1.1 F.1.2.1 dL_law_731 (by decide) ?_
    exact absurd hf law_no
set_option maxHeartbeats 4000000 in
set_option maxRecDepth 100000 in
theorem tL_19 (l : Launch) (G : GT) {p : Program} {e : Env} {s : State} {m : MethodId} {below : List Frame} {meth : Method} {c : Code} {b L : Nat} {xs : Nat → Int32} {C S : Nat} {μ' : Mem} (F : Fx p s m #[Value.ref b] meth c cL_law 4 wsL_law RL ret G) (hX : va_X b L xs s s.heap) (hbl : b < s.heap.size) (hbA : ¬ gA G b) (hcs : C ≤ room_1.cells ∧ S ≤ room_1.slots) (K18 : Int32 → Mem → Option (Int32 × Mem)) (ih18 : ∀ (x3 : Int32) (μ : Mem) (H : Heap) (locs : List Loc) (ls : Array Slot), Hh G μ H → va_S (gA G) s.heap H locs → lv_has ls 4 [(0, .ref b), (1, .ref (ga G 0)), (2, .ref (ga G 31)), (3, .int x3)] → K18 x3 μ = some (1, μ') → W p l e room_1 s m #[Value.ref b] below meth c H locs C S (lw_Z below #[Value.ref b] s) (F0 m 18 ls [])) (x3 : Int32) (μ : Mem) (H : Heap) (locs : List Loc) (ls : Array Slot) (hP : Hh G μ H) (hS : va_S (gA G) s.heap H locs) (hl : lv_has ls 4 [(0, .ref b), (1, .ref (ga G 0)), (2, .ref (ga G 31)), (3, .int x3)]) (hf : cL_19 xs L K18 x3 μ = some (1, μ')) : W p l e room_1 s m #[Value.ref b] below meth c H locs C S (lw_Z below #[Value.ref b] s) (F0 m 733 ls []) := by
  unfold cL_19 at hf
  refine lv_aload_n F.1.1 F.1.2.1 dL_law_733 rfl (lv_at hl 1 rfl) ?_
  refine lv_aload_n F.1.1 F.1.2.1 dL_law_734 rfl (lv_at hl 0 rfl) ?_
  refine lv_iload_n F.1.1 F.1.2.1 dL_law_735 rfl (lv_at hl 3 rfl) ?_
  refine lv_iconst (v := (1 : Int32)) F.1.1 F.1.2.1 dL_law_736 (by decide) ?_
  refine lv_iadd F.1.1 F.1.2.1 dL_law_737 ?_
  refine r_sld F hX hbl hbA hS dL_law_738 hf (fun hf => ?_)
  obtain ⟨r_136, μ_134, hc_135, hf⟩ := bnd_some hf
  refine rV1 (R := room_1) (As := [.int (xs ((x3 + (1 : Int32))).toNatClampNeg)]) (rest := []) F hP hS hl (mX5_kinds l G F.2.2.2.2 (xs ((x3 + (1 : Int32))).toNatClampNeg) _ _ _ hc_135) gL_law_X5_kinds rfl hdX5_kinds rfl rfl rfl ⟨Nat.le_of_ble_eq_true rfl, Nat.le_of_ble_eq_true rfl⟩ (by decide) rfl rfl rfl (Nat.le_of_ble_eq_true rfl) hcs dL_law_739 (fun H locs hP hS => ?_)
  refine lv_aload_n F.1.1 F.1.2.1 dL_law_742 rfl (lv_at hl 2 rfl) ?_
  refine lv_aload_n F.1.1 F.1.2.1 dL_law_743 rfl (lv_at hl 0 rfl) ?_
  refine lv_iload_n F.1.1 F.1.2.1 dL_law_744 rfl (lv_at hl 3 rfl) ?_
  refine lv_iconst (v := (1 : Int32)) F.1.1 F.1.2.1 dL_law_745 (by decide) ?_
  refine lv_iadd F.1.1 F.1.2.1 dL_law_746 ?_
  refine r_sld F hX hbl hbA hS dL_law_747 hf (fun hf => ?_)
  obtain ⟨r_139, μ_137, hc_138, hf⟩ := bnd_some hf
  refine rV1 (R := room_1) (As := [.int (xs ((x3 + (1 : Int32))).toNatClampNeg)]) (rest := [.int r_136]) F hP hS hl (mX6_kinds l G F.2.2.2.2 (xs ((x3 + (1 : Int32))).toNatClampNeg) _ _ _ hc_138) gL_law_X6_kinds rfl hdX6_kinds rfl rfl rfl ⟨Nat.le_of_ble_eq_true rfl, Nat.le_of_ble_eq_true rfl⟩ (by decide) rfl rfl rfl (Nat.le_of_ble_eq_true rfl) hcs dL_law_748 (fun H locs hP hS => ?_)
  refine jc_eq (tgt := 1134) F dL_law_751 (by decide) hf (fun hf => ?_) (fun hf => ?_)
  · refine top_n hf (fun y_140 ey_140 hf => ?_)
    refine lv_iinc (v := y_140) (lv' := [(3, .int y_140), (0, .ref b), (1, .ref (ga G 0)), (2, .ref (ga G 31))]) F.1.1 F.1.2.1 dL_law_1134 hl (k := 3) rfl ey_140 (by decide) rfl (fun ls hl => ?_)
    refine lv_goto (tgt := 18) F.1.1 F.1.2.1 dL_law_1137 (by decide) ?_
    exact ih18 y_140 μ_137 H locs ls hP hS (lv_sub hl [1, 2, 3, 0] rfl) hf
  · refine lv_iconst (v := (0 : Int32)) F.1.1 F.1.2.1 dL_law_754 (by decide) ?_
    exact absurd hf law_no
set_option maxHeartbeats 4000000 in
set_option maxRecDepth 100000 in
theorem tL_20 (l : Launch) (G : GT) {p : Program} {e : Env} {s : State} {m : MethodId} {below : List Frame} {meth : Method} {c : Code} {b L : Nat} {xs : Nat → Int32} {C S : Nat} {μ' : Mem} (F : Fx p s m #[Value.ref b] meth c cL_law 4 wsL_law RL ret G) (hX : va_X b L xs s s.heap) (hbl : b < s.heap.size) (hbA : ¬ gA G b) (hcs : C ≤ room_1.cells ∧ S ≤ room_1.slots) (K18 : Int32 → Mem → Option (Int32 × Mem)) (ih18 : ∀ (x3 : Int32) (μ : Mem) (H : Heap) (locs : List Loc) (ls : Array Slot), Hh G μ H → va_S (gA G) s.heap H locs → lv_has ls 4 [(0, .ref b), (1, .ref (ga G 0)), (2, .ref (ga G 31)), (3, .int x3)] → K18 x3 μ = some (1, μ') → W p l e room_1 s m #[Value.ref b] below meth c H locs C S (lw_Z below #[Value.ref b] s) (F0 m 18 ls [])) (x3 : Int32) (μ : Mem) (H : Heap) (locs : List Loc) (ls : Array Slot) (hP : Hh G μ H) (hS : va_S (gA G) s.heap H locs) (hl : lv_has ls 4 [(0, .ref b), (1, .ref (ga G 0)), (2, .ref (ga G 31)), (3, .int x3)]) (hf : cL_20 xs L K18 x3 μ = some (1, μ')) : W p l e room_1 s m #[Value.ref b] below meth c H locs C S (lw_Z below #[Value.ref b] s) (F0 m 756 ls []) := by
  unfold cL_20 at hf
  refine lv_aload_n F.1.1 F.1.2.1 dL_law_756 rfl (lv_at hl 1 rfl) ?_
  refine lv_aload_n F.1.1 F.1.2.1 dL_law_757 rfl (lv_at hl 0 rfl) ?_
  refine lv_iload_n F.1.1 F.1.2.1 dL_law_758 rfl (lv_at hl 3 rfl) ?_
  refine lv_iconst (v := (1 : Int32)) F.1.1 F.1.2.1 dL_law_759 (by decide) ?_
  refine lv_iadd F.1.1 F.1.2.1 dL_law_760 ?_
  refine r_sld F hX hbl hbA hS dL_law_761 hf (fun hf => ?_)
  refine lv_aload_n F.1.1 F.1.2.1 dL_law_762 rfl (lv_at hl 0 rfl) ?_
  refine lv_iload_n F.1.1 F.1.2.1 dL_law_763 rfl (lv_at hl 3 rfl) ?_
  refine lv_iconst (v := (2 : Int32)) F.1.1 F.1.2.1 dL_law_764 (by decide) ?_
  refine lv_iadd F.1.1 F.1.2.1 dL_law_765 ?_
  refine r_sld F hX hbl hbA hS dL_law_766 hf (fun hf => ?_)
  obtain ⟨r_143, μ_141, hc_142, hf⟩ := bnd_some hf
  refine rV1 (R := room_1) (As := [.int (xs ((x3 + (1 : Int32))).toNatClampNeg), .int (xs ((x3 + (2 : Int32))).toNatClampNeg)]) (rest := []) F hP hS hl (mX5_odds l G F.2.2.2.2 (xs ((x3 + (1 : Int32))).toNatClampNeg) (xs ((x3 + (2 : Int32))).toNatClampNeg) _ _ _ hc_142) gL_law_X5_odds rfl hdX5_odds rfl rfl rfl ⟨Nat.le_of_ble_eq_true rfl, Nat.le_of_ble_eq_true rfl⟩ (by decide) rfl rfl rfl (Nat.le_of_ble_eq_true rfl) hcs dL_law_767 (fun H locs hP hS => ?_)
  refine lv_aload_n F.1.1 F.1.2.1 dL_law_770 rfl (lv_at hl 2 rfl) ?_
  refine lv_aload_n F.1.1 F.1.2.1 dL_law_771 rfl (lv_at hl 0 rfl) ?_
  refine lv_iload_n F.1.1 F.1.2.1 dL_law_772 rfl (lv_at hl 3 rfl) ?_
  refine lv_iconst (v := (1 : Int32)) F.1.1 F.1.2.1 dL_law_773 (by decide) ?_
  refine lv_iadd F.1.1 F.1.2.1 dL_law_774 ?_
  refine r_sld F hX hbl hbA hS dL_law_775 hf (fun hf => ?_)
  refine lv_aload_n F.1.1 F.1.2.1 dL_law_776 rfl (lv_at hl 0 rfl) ?_
  refine lv_iload_n F.1.1 F.1.2.1 dL_law_777 rfl (lv_at hl 3 rfl) ?_
  refine lv_iconst (v := (2 : Int32)) F.1.1 F.1.2.1 dL_law_778 (by decide) ?_
  refine lv_iadd F.1.1 F.1.2.1 dL_law_779 ?_
  refine r_sld F hX hbl hbA hS dL_law_780 hf (fun hf => ?_)
  obtain ⟨r_146, μ_144, hc_145, hf⟩ := bnd_some hf
  refine rV1 (R := room_1) (As := [.int (xs ((x3 + (1 : Int32))).toNatClampNeg), .int (xs ((x3 + (2 : Int32))).toNatClampNeg)]) (rest := [.long r_143]) F hP hS hl (mX6_odds l G F.2.2.2.2 (xs ((x3 + (1 : Int32))).toNatClampNeg) (xs ((x3 + (2 : Int32))).toNatClampNeg) _ _ _ hc_145) gL_law_X6_odds rfl hdX6_odds rfl rfl rfl ⟨Nat.le_of_ble_eq_true rfl, Nat.le_of_ble_eq_true rfl⟩ (by decide) rfl rfl rfl (Nat.le_of_ble_eq_true rfl) hcs dL_law_781 (fun H locs hP hS => ?_)
  refine W.lcmp F.1.1 F.1.2.1 dL_law_784 ?_
  refine jz_eq (tgt := 1134) F dL_law_785 (by decide) hf (fun hf => ?_) (fun hf => ?_)
  · refine top_n hf (fun y_147 ey_147 hf => ?_)
    refine lv_iinc (v := y_147) (lv' := [(3, .int y_147), (0, .ref b), (1, .ref (ga G 0)), (2, .ref (ga G 31))]) F.1.1 F.1.2.1 dL_law_1134 hl (k := 3) rfl ey_147 (by decide) rfl (fun ls hl => ?_)
    refine lv_goto (tgt := 18) F.1.1 F.1.2.1 dL_law_1137 (by decide) ?_
    exact ih18 y_147 μ_144 H locs ls hP hS (lv_sub hl [1, 2, 3, 0] rfl) hf
  · refine lv_iconst (v := (0 : Int32)) F.1.1 F.1.2.1 dL_law_788 (by decide) ?_
    exact absurd hf law_no
set_option maxHeartbeats 4000000 in
set_option maxRecDepth 100000 in
theorem tL_21 (l : Launch) (G : GT) {p : Program} {e : Env} {s : State} {m : MethodId} {below : List Frame} {meth : Method} {c : Code} {b L : Nat} {xs : Nat → Int32} {C S : Nat} {μ' : Mem} (F : Fx p s m #[Value.ref b] meth c cL_law 4 wsL_law RL ret G) (hX : va_X b L xs s s.heap) (hbl : b < s.heap.size) (hbA : ¬ gA G b) (hcs : C ≤ room_1.cells ∧ S ≤ room_1.slots) (K18 : Int32 → Mem → Option (Int32 × Mem)) (ih18 : ∀ (x3 : Int32) (μ : Mem) (H : Heap) (locs : List Loc) (ls : Array Slot), Hh G μ H → va_S (gA G) s.heap H locs → lv_has ls 4 [(0, .ref b), (1, .ref (ga G 0)), (2, .ref (ga G 31)), (3, .int x3)] → K18 x3 μ = some (1, μ') → W p l e room_1 s m #[Value.ref b] below meth c H locs C S (lw_Z below #[Value.ref b] s) (F0 m 18 ls [])) (x3 : Int32) (μ : Mem) (H : Heap) (locs : List Loc) (ls : Array Slot) (hP : Hh G μ H) (hS : va_S (gA G) s.heap H locs) (hl : lv_has ls 4 [(0, .ref b), (1, .ref (ga G 0)), (2, .ref (ga G 31)), (3, .int x3)]) (hf : cL_21 xs L K18 x3 μ = some (1, μ')) : W p l e room_1 s m #[Value.ref b] below meth c H locs C S (lw_Z below #[Value.ref b] s) (F0 m 790 ls []) := by
  unfold cL_21 at hf
  refine lv_aload_n F.1.1 F.1.2.1 dL_law_790 rfl (lv_at hl 1 rfl) ?_
  refine lv_aload_n F.1.1 F.1.2.1 dL_law_791 rfl (lv_at hl 0 rfl) ?_
  refine lv_iload_n F.1.1 F.1.2.1 dL_law_792 rfl (lv_at hl 3 rfl) ?_
  refine lv_iconst (v := (1 : Int32)) F.1.1 F.1.2.1 dL_law_793 (by decide) ?_
  refine lv_iadd F.1.1 F.1.2.1 dL_law_794 ?_
  refine r_sld F hX hbl hbA hS dL_law_795 hf (fun hf => ?_)
  refine lv_aload_n F.1.1 F.1.2.1 dL_law_796 rfl (lv_at hl 0 rfl) ?_
  refine lv_iload_n F.1.1 F.1.2.1 dL_law_797 rfl (lv_at hl 3 rfl) ?_
  refine lv_iconst (v := (2 : Int32)) F.1.1 F.1.2.1 dL_law_798 (by decide) ?_
  refine lv_iadd F.1.1 F.1.2.1 dL_law_799 ?_
  refine r_sld F hX hbl hbA hS dL_law_800 hf (fun hf => ?_)
  refine lv_aload_n F.1.1 F.1.2.1 dL_law_801 rfl (lv_at hl 0 rfl) ?_
  refine lv_iload_n F.1.1 F.1.2.1 dL_law_802 rfl (lv_at hl 3 rfl) ?_
  refine lv_iconst (v := (3 : Int32)) F.1.1 F.1.2.1 dL_law_803 (by decide) ?_
  refine lv_iadd F.1.1 F.1.2.1 dL_law_804 ?_
  refine r_sld F hX hbl hbA hS dL_law_805 hf (fun hf => ?_)
  obtain ⟨r_150, μ_148, hc_149, hf⟩ := bnd_some hf
  refine rV1 (R := room_1) (As := [.int (xs ((x3 + (1 : Int32))).toNatClampNeg), .int (xs ((x3 + (2 : Int32))).toNatClampNeg), .int (xs ((x3 + (3 : Int32))).toNatClampNeg)]) (rest := []) F hP hS hl (mX5_sheet l G F.2.2.2.2 (xs ((x3 + (1 : Int32))).toNatClampNeg) (xs ((x3 + (2 : Int32))).toNatClampNeg) (xs ((x3 + (3 : Int32))).toNatClampNeg) _ _ _ hc_149) gL_law_X5_sheet rfl hdX5_sheet rfl rfl rfl ⟨Nat.le_of_ble_eq_true rfl, Nat.le_of_ble_eq_true rfl⟩ (by decide) rfl rfl rfl (Nat.le_of_ble_eq_true rfl) hcs dL_law_806 (fun H locs hP hS => ?_)
  refine lv_aload_n F.1.1 F.1.2.1 dL_law_809 rfl (lv_at hl 2 rfl) ?_
  refine lv_aload_n F.1.1 F.1.2.1 dL_law_810 rfl (lv_at hl 0 rfl) ?_
  refine lv_iload_n F.1.1 F.1.2.1 dL_law_811 rfl (lv_at hl 3 rfl) ?_
  refine lv_iconst (v := (1 : Int32)) F.1.1 F.1.2.1 dL_law_812 (by decide) ?_
  refine lv_iadd F.1.1 F.1.2.1 dL_law_813 ?_
  refine r_sld F hX hbl hbA hS dL_law_814 hf (fun hf => ?_)
  refine lv_aload_n F.1.1 F.1.2.1 dL_law_815 rfl (lv_at hl 0 rfl) ?_
  refine lv_iload_n F.1.1 F.1.2.1 dL_law_816 rfl (lv_at hl 3 rfl) ?_
  refine lv_iconst (v := (2 : Int32)) F.1.1 F.1.2.1 dL_law_817 (by decide) ?_
  refine lv_iadd F.1.1 F.1.2.1 dL_law_818 ?_
  refine r_sld F hX hbl hbA hS dL_law_819 hf (fun hf => ?_)
  refine lv_aload_n F.1.1 F.1.2.1 dL_law_820 rfl (lv_at hl 0 rfl) ?_
  refine lv_iload_n F.1.1 F.1.2.1 dL_law_821 rfl (lv_at hl 3 rfl) ?_
  refine lv_iconst (v := (3 : Int32)) F.1.1 F.1.2.1 dL_law_822 (by decide) ?_
  refine lv_iadd F.1.1 F.1.2.1 dL_law_823 ?_
  refine r_sld F hX hbl hbA hS dL_law_824 hf (fun hf => ?_)
  obtain ⟨r_153, μ_151, hc_152, hf⟩ := bnd_some hf
  refine rV1 (R := room_1) (As := [.int (xs ((x3 + (1 : Int32))).toNatClampNeg), .int (xs ((x3 + (2 : Int32))).toNatClampNeg), .int (xs ((x3 + (3 : Int32))).toNatClampNeg)]) (rest := [.int r_150]) F hP hS hl (mX6_sheet l G F.2.2.2.2 (xs ((x3 + (1 : Int32))).toNatClampNeg) (xs ((x3 + (2 : Int32))).toNatClampNeg) (xs ((x3 + (3 : Int32))).toNatClampNeg) _ _ _ hc_152) gL_law_X6_sheet rfl hdX6_sheet rfl rfl rfl ⟨Nat.le_of_ble_eq_true rfl, Nat.le_of_ble_eq_true rfl⟩ (by decide) rfl rfl rfl (Nat.le_of_ble_eq_true rfl) hcs dL_law_825 (fun H locs hP hS => ?_)
  refine jc_eq (tgt := 1134) F dL_law_828 (by decide) hf (fun hf => ?_) (fun hf => ?_)
  · refine top_n hf (fun y_154 ey_154 hf => ?_)
    refine lv_iinc (v := y_154) (lv' := [(3, .int y_154), (0, .ref b), (1, .ref (ga G 0)), (2, .ref (ga G 31))]) F.1.1 F.1.2.1 dL_law_1134 hl (k := 3) rfl ey_154 (by decide) rfl (fun ls hl => ?_)
    refine lv_goto (tgt := 18) F.1.1 F.1.2.1 dL_law_1137 (by decide) ?_
    exact ih18 y_154 μ_151 H locs ls hP hS (lv_sub hl [1, 2, 3, 0] rfl) hf
  · refine lv_iconst (v := (0 : Int32)) F.1.1 F.1.2.1 dL_law_831 (by decide) ?_
    exact absurd hf law_no
set_option maxHeartbeats 4000000 in
set_option maxRecDepth 100000 in
theorem tL_22 (l : Launch) (G : GT) {p : Program} {e : Env} {s : State} {m : MethodId} {below : List Frame} {meth : Method} {c : Code} {b L : Nat} {xs : Nat → Int32} {C S : Nat} {μ' : Mem} (F : Fx p s m #[Value.ref b] meth c cL_law 4 wsL_law RL ret G) (hX : va_X b L xs s s.heap) (hbl : b < s.heap.size) (hbA : ¬ gA G b) (hcs : C ≤ room_1.cells ∧ S ≤ room_1.slots) (K18 : Int32 → Mem → Option (Int32 × Mem)) (ih18 : ∀ (x3 : Int32) (μ : Mem) (H : Heap) (locs : List Loc) (ls : Array Slot), Hh G μ H → va_S (gA G) s.heap H locs → lv_has ls 4 [(0, .ref b), (1, .ref (ga G 0)), (2, .ref (ga G 31)), (3, .int x3)] → K18 x3 μ = some (1, μ') → W p l e room_1 s m #[Value.ref b] below meth c H locs C S (lw_Z below #[Value.ref b] s) (F0 m 18 ls [])) (x3 : Int32) (μ : Mem) (H : Heap) (locs : List Loc) (ls : Array Slot) (hP : Hh G μ H) (hS : va_S (gA G) s.heap H locs) (hl : lv_has ls 4 [(0, .ref b), (1, .ref (ga G 0)), (2, .ref (ga G 31)), (3, .int x3)]) (hf : cL_22 xs L K18 x3 μ = some (1, μ')) : W p l e room_1 s m #[Value.ref b] below meth c H locs C S (lw_Z below #[Value.ref b] s) (F0 m 833 ls []) := by
  unfold cL_22 at hf
  refine lv_aload_n F.1.1 F.1.2.1 dL_law_833 rfl (lv_at hl 1 rfl) ?_
  refine lv_aload_n F.1.1 F.1.2.1 dL_law_834 rfl (lv_at hl 0 rfl) ?_
  refine lv_iload_n F.1.1 F.1.2.1 dL_law_835 rfl (lv_at hl 3 rfl) ?_
  refine lv_iconst (v := (1 : Int32)) F.1.1 F.1.2.1 dL_law_836 (by decide) ?_
  refine lv_iadd F.1.1 F.1.2.1 dL_law_837 ?_
  refine r_sld F hX hbl hbA hS dL_law_838 hf (fun hf => ?_)
  obtain ⟨r_157, μ_155, hc_156, hf⟩ := bnd_some hf
  refine rV1 (R := room_1) (As := [.int (xs ((x3 + (1 : Int32))).toNatClampNeg)]) (rest := []) F hP hS hl (mX5_lose l G F.2.2.2.2 (xs ((x3 + (1 : Int32))).toNatClampNeg) _ _ _ hc_156) gL_law_X5_lose rfl hdX5_lose rfl rfl rfl ⟨Nat.le_of_ble_eq_true rfl, Nat.le_of_ble_eq_true rfl⟩ (by decide) rfl rfl rfl (Nat.le_of_ble_eq_true rfl) hcs dL_law_839 (fun H locs hP hS => ?_)
  refine lv_aload_n F.1.1 F.1.2.1 dL_law_842 rfl (lv_at hl 2 rfl) ?_
  refine lv_aload_n F.1.1 F.1.2.1 dL_law_843 rfl (lv_at hl 0 rfl) ?_
  refine lv_iload_n F.1.1 F.1.2.1 dL_law_844 rfl (lv_at hl 3 rfl) ?_
  refine lv_iconst (v := (1 : Int32)) F.1.1 F.1.2.1 dL_law_845 (by decide) ?_
  refine lv_iadd F.1.1 F.1.2.1 dL_law_846 ?_
  refine r_sld F hX hbl hbA hS dL_law_847 hf (fun hf => ?_)
  obtain ⟨r_160, μ_158, hc_159, hf⟩ := bnd_some hf
  refine rV1 (R := room_1) (As := [.int (xs ((x3 + (1 : Int32))).toNatClampNeg)]) (rest := [.int r_157]) F hP hS hl (mX6_lose l G F.2.2.2.2 (xs ((x3 + (1 : Int32))).toNatClampNeg) _ _ _ hc_159) gL_law_X6_lose rfl hdX6_lose rfl rfl rfl ⟨Nat.le_of_ble_eq_true rfl, Nat.le_of_ble_eq_true rfl⟩ (by decide) rfl rfl rfl (Nat.le_of_ble_eq_true rfl) hcs dL_law_848 (fun H locs hP hS => ?_)
  refine jc_eq (tgt := 1134) F dL_law_851 (by decide) hf (fun hf => ?_) (fun hf => ?_)
  · refine top_n hf (fun y_161 ey_161 hf => ?_)
    refine lv_iinc (v := y_161) (lv' := [(3, .int y_161), (0, .ref b), (1, .ref (ga G 0)), (2, .ref (ga G 31))]) F.1.1 F.1.2.1 dL_law_1134 hl (k := 3) rfl ey_161 (by decide) rfl (fun ls hl => ?_)
    refine lv_goto (tgt := 18) F.1.1 F.1.2.1 dL_law_1137 (by decide) ?_
    exact ih18 y_161 μ_158 H locs ls hP hS (lv_sub hl [1, 2, 3, 0] rfl) hf
  · refine lv_iconst (v := (0 : Int32)) F.1.1 F.1.2.1 dL_law_854 (by decide) ?_
    exact absurd hf law_no
set_option maxHeartbeats 4000000 in
set_option maxRecDepth 100000 in
theorem tL_23 (l : Launch) (G : GT) {p : Program} {e : Env} {s : State} {m : MethodId} {below : List Frame} {meth : Method} {c : Code} {b L : Nat} {xs : Nat → Int32} {C S : Nat} {μ' : Mem} (F : Fx p s m #[Value.ref b] meth c cL_law 4 wsL_law RL ret G) (hX : va_X b L xs s s.heap) (hbl : b < s.heap.size) (hbA : ¬ gA G b) (hcs : C ≤ room_1.cells ∧ S ≤ room_1.slots) (K18 : Int32 → Mem → Option (Int32 × Mem)) (ih18 : ∀ (x3 : Int32) (μ : Mem) (H : Heap) (locs : List Loc) (ls : Array Slot), Hh G μ H → va_S (gA G) s.heap H locs → lv_has ls 4 [(0, .ref b), (1, .ref (ga G 0)), (2, .ref (ga G 31)), (3, .int x3)] → K18 x3 μ = some (1, μ') → W p l e room_1 s m #[Value.ref b] below meth c H locs C S (lw_Z below #[Value.ref b] s) (F0 m 18 ls [])) (x3 : Int32) (μ : Mem) (H : Heap) (locs : List Loc) (ls : Array Slot) (hP : Hh G μ H) (hS : va_S (gA G) s.heap H locs) (hl : lv_has ls 4 [(0, .ref b), (1, .ref (ga G 0)), (2, .ref (ga G 31)), (3, .int x3)]) (hf : cL_23 xs L K18 x3 μ = some (1, μ')) : W p l e room_1 s m #[Value.ref b] below meth c H locs C S (lw_Z below #[Value.ref b] s) (F0 m 856 ls []) := by
  unfold cL_23 at hf
  refine lv_aload_n F.1.1 F.1.2.1 dL_law_856 rfl (lv_at hl 1 rfl) ?_
  refine lv_aload_n F.1.1 F.1.2.1 dL_law_857 rfl (lv_at hl 0 rfl) ?_
  refine lv_iload_n F.1.1 F.1.2.1 dL_law_858 rfl (lv_at hl 3 rfl) ?_
  refine lv_iconst (v := (1 : Int32)) F.1.1 F.1.2.1 dL_law_859 (by decide) ?_
  refine lv_iadd F.1.1 F.1.2.1 dL_law_860 ?_
  refine r_sld F hX hbl hbA hS dL_law_861 hf (fun hf => ?_)
  refine lv_aload_n F.1.1 F.1.2.1 dL_law_862 rfl (lv_at hl 0 rfl) ?_
  refine lv_iload_n F.1.1 F.1.2.1 dL_law_863 rfl (lv_at hl 3 rfl) ?_
  refine lv_iconst (v := (2 : Int32)) F.1.1 F.1.2.1 dL_law_864 (by decide) ?_
  refine lv_iadd F.1.1 F.1.2.1 dL_law_865 ?_
  refine r_sld F hX hbl hbA hS dL_law_866 hf (fun hf => ?_)
  refine lv_aload_n F.1.1 F.1.2.1 dL_law_867 rfl (lv_at hl 0 rfl) ?_
  refine lv_iload_n F.1.1 F.1.2.1 dL_law_868 rfl (lv_at hl 3 rfl) ?_
  refine lv_iconst (v := (3 : Int32)) F.1.1 F.1.2.1 dL_law_869 (by decide) ?_
  refine lv_iadd F.1.1 F.1.2.1 dL_law_870 ?_
  refine r_sld F hX hbl hbA hS dL_law_871 hf (fun hf => ?_)
  obtain ⟨r_164, μ_162, hc_163, hf⟩ := bnd_some hf
  refine rV1 (R := room_1) (As := [.int (xs ((x3 + (1 : Int32))).toNatClampNeg), .int (xs ((x3 + (2 : Int32))).toNatClampNeg), .int (xs ((x3 + (3 : Int32))).toNatClampNeg)]) (rest := []) F hP hS hl (mX5_put l G F.2.2.2.2 (xs ((x3 + (1 : Int32))).toNatClampNeg) (xs ((x3 + (2 : Int32))).toNatClampNeg) (xs ((x3 + (3 : Int32))).toNatClampNeg) _ _ _ hc_163) gL_law_X5_put rfl hdX5_put rfl rfl rfl ⟨Nat.le_of_ble_eq_true rfl, Nat.le_of_ble_eq_true rfl⟩ (by decide) rfl rfl rfl (Nat.le_of_ble_eq_true rfl) hcs dL_law_872 (fun H locs hP hS => ?_)
  refine lv_aload_n F.1.1 F.1.2.1 dL_law_875 rfl (lv_at hl 2 rfl) ?_
  refine lv_aload_n F.1.1 F.1.2.1 dL_law_876 rfl (lv_at hl 0 rfl) ?_
  refine lv_iload_n F.1.1 F.1.2.1 dL_law_877 rfl (lv_at hl 3 rfl) ?_
  refine lv_iconst (v := (1 : Int32)) F.1.1 F.1.2.1 dL_law_878 (by decide) ?_
  refine lv_iadd F.1.1 F.1.2.1 dL_law_879 ?_
  refine r_sld F hX hbl hbA hS dL_law_880 hf (fun hf => ?_)
  refine lv_aload_n F.1.1 F.1.2.1 dL_law_881 rfl (lv_at hl 0 rfl) ?_
  refine lv_iload_n F.1.1 F.1.2.1 dL_law_882 rfl (lv_at hl 3 rfl) ?_
  refine lv_iconst (v := (2 : Int32)) F.1.1 F.1.2.1 dL_law_883 (by decide) ?_
  refine lv_iadd F.1.1 F.1.2.1 dL_law_884 ?_
  refine r_sld F hX hbl hbA hS dL_law_885 hf (fun hf => ?_)
  refine lv_aload_n F.1.1 F.1.2.1 dL_law_886 rfl (lv_at hl 0 rfl) ?_
  refine lv_iload_n F.1.1 F.1.2.1 dL_law_887 rfl (lv_at hl 3 rfl) ?_
  refine lv_iconst (v := (3 : Int32)) F.1.1 F.1.2.1 dL_law_888 (by decide) ?_
  refine lv_iadd F.1.1 F.1.2.1 dL_law_889 ?_
  refine r_sld F hX hbl hbA hS dL_law_890 hf (fun hf => ?_)
  obtain ⟨r_167, μ_165, hc_166, hf⟩ := bnd_some hf
  refine rV1 (R := room_1) (As := [.int (xs ((x3 + (1 : Int32))).toNatClampNeg), .int (xs ((x3 + (2 : Int32))).toNatClampNeg), .int (xs ((x3 + (3 : Int32))).toNatClampNeg)]) (rest := [.int r_164]) F hP hS hl (mX6_put l G F.2.2.2.2 (xs ((x3 + (1 : Int32))).toNatClampNeg) (xs ((x3 + (2 : Int32))).toNatClampNeg) (xs ((x3 + (3 : Int32))).toNatClampNeg) _ _ _ hc_166) gL_law_X6_put rfl hdX6_put rfl rfl rfl ⟨Nat.le_of_ble_eq_true rfl, Nat.le_of_ble_eq_true rfl⟩ (by decide) rfl rfl rfl (Nat.le_of_ble_eq_true rfl) hcs dL_law_891 (fun H locs hP hS => ?_)
  refine jc_eq (tgt := 1134) F dL_law_894 (by decide) hf (fun hf => ?_) (fun hf => ?_)
  · refine top_n hf (fun y_168 ey_168 hf => ?_)
    refine lv_iinc (v := y_168) (lv' := [(3, .int y_168), (0, .ref b), (1, .ref (ga G 0)), (2, .ref (ga G 31))]) F.1.1 F.1.2.1 dL_law_1134 hl (k := 3) rfl ey_168 (by decide) rfl (fun ls hl => ?_)
    refine lv_goto (tgt := 18) F.1.1 F.1.2.1 dL_law_1137 (by decide) ?_
    exact ih18 y_168 μ_165 H locs ls hP hS (lv_sub hl [1, 2, 3, 0] rfl) hf
  · refine lv_iconst (v := (0 : Int32)) F.1.1 F.1.2.1 dL_law_897 (by decide) ?_
    exact absurd hf law_no
set_option maxHeartbeats 4000000 in
set_option maxRecDepth 100000 in
theorem tL_24 (l : Launch) (G : GT) {p : Program} {e : Env} {s : State} {m : MethodId} {below : List Frame} {meth : Method} {c : Code} {b L : Nat} {xs : Nat → Int32} {C S : Nat} {μ' : Mem} (F : Fx p s m #[Value.ref b] meth c cL_law 4 wsL_law RL ret G) (hX : va_X b L xs s s.heap) (hbl : b < s.heap.size) (hbA : ¬ gA G b) (hcs : C ≤ room_1.cells ∧ S ≤ room_1.slots) (K18 : Int32 → Mem → Option (Int32 × Mem)) (ih18 : ∀ (x3 : Int32) (μ : Mem) (H : Heap) (locs : List Loc) (ls : Array Slot), Hh G μ H → va_S (gA G) s.heap H locs → lv_has ls 4 [(0, .ref b), (1, .ref (ga G 0)), (2, .ref (ga G 31)), (3, .int x3)] → K18 x3 μ = some (1, μ') → W p l e room_1 s m #[Value.ref b] below meth c H locs C S (lw_Z below #[Value.ref b] s) (F0 m 18 ls [])) (x3 : Int32) (μ : Mem) (H : Heap) (locs : List Loc) (ls : Array Slot) (hP : Hh G μ H) (hS : va_S (gA G) s.heap H locs) (hl : lv_has ls 4 [(0, .ref b), (1, .ref (ga G 0)), (2, .ref (ga G 31)), (3, .int x3)]) (hf : cL_24 xs L K18 x3 μ = some (1, μ')) : W p l e room_1 s m #[Value.ref b] below meth c H locs C S (lw_Z below #[Value.ref b] s) (F0 m 899 ls []) := by
  unfold cL_24 at hf
  refine lv_aload_n F.1.1 F.1.2.1 dL_law_899 rfl (lv_at hl 1 rfl) ?_
  refine lv_aload_n F.1.1 F.1.2.1 dL_law_900 rfl (lv_at hl 0 rfl) ?_
  refine lv_iload_n F.1.1 F.1.2.1 dL_law_901 rfl (lv_at hl 3 rfl) ?_
  refine lv_iconst (v := (1 : Int32)) F.1.1 F.1.2.1 dL_law_902 (by decide) ?_
  refine lv_iadd F.1.1 F.1.2.1 dL_law_903 ?_
  refine r_sld F hX hbl hbA hS dL_law_904 hf (fun hf => ?_)
  refine lv_aload_n F.1.1 F.1.2.1 dL_law_905 rfl (lv_at hl 0 rfl) ?_
  refine lv_iload_n F.1.1 F.1.2.1 dL_law_906 rfl (lv_at hl 3 rfl) ?_
  refine lv_iconst (v := (2 : Int32)) F.1.1 F.1.2.1 dL_law_907 (by decide) ?_
  refine lv_iadd F.1.1 F.1.2.1 dL_law_908 ?_
  refine r_sld F hX hbl hbA hS dL_law_909 hf (fun hf => ?_)
  refine lv_aload_n F.1.1 F.1.2.1 dL_law_910 rfl (lv_at hl 0 rfl) ?_
  refine lv_iload_n F.1.1 F.1.2.1 dL_law_911 rfl (lv_at hl 3 rfl) ?_
  refine lv_iconst (v := (3 : Int32)) F.1.1 F.1.2.1 dL_law_912 (by decide) ?_
  refine lv_iadd F.1.1 F.1.2.1 dL_law_913 ?_
  refine r_sld F hX hbl hbA hS dL_law_914 hf (fun hf => ?_)
  obtain ⟨r_171, μ_169, hc_170, hf⟩ := bnd_some hf
  refine rV1 (R := room_1) (As := [.int (xs ((x3 + (1 : Int32))).toNatClampNeg), .int (xs ((x3 + (2 : Int32))).toNatClampNeg), .int (xs ((x3 + (3 : Int32))).toNatClampNeg)]) (rest := []) F hP hS hl (mX5_cell l G F.2.2.2.2 (xs ((x3 + (1 : Int32))).toNatClampNeg) (xs ((x3 + (2 : Int32))).toNatClampNeg) (xs ((x3 + (3 : Int32))).toNatClampNeg) _ _ _ hc_170) gL_law_X5_cell rfl hdX5_cell rfl rfl rfl ⟨Nat.le_of_ble_eq_true rfl, Nat.le_of_ble_eq_true rfl⟩ (by decide) rfl rfl rfl (Nat.le_of_ble_eq_true rfl) hcs dL_law_915 (fun H locs hP hS => ?_)
  refine lv_aload_n F.1.1 F.1.2.1 dL_law_918 rfl (lv_at hl 2 rfl) ?_
  refine lv_aload_n F.1.1 F.1.2.1 dL_law_919 rfl (lv_at hl 0 rfl) ?_
  refine lv_iload_n F.1.1 F.1.2.1 dL_law_920 rfl (lv_at hl 3 rfl) ?_
  refine lv_iconst (v := (1 : Int32)) F.1.1 F.1.2.1 dL_law_921 (by decide) ?_
  refine lv_iadd F.1.1 F.1.2.1 dL_law_922 ?_
  refine r_sld F hX hbl hbA hS dL_law_923 hf (fun hf => ?_)
  refine lv_aload_n F.1.1 F.1.2.1 dL_law_924 rfl (lv_at hl 0 rfl) ?_
  refine lv_iload_n F.1.1 F.1.2.1 dL_law_925 rfl (lv_at hl 3 rfl) ?_
  refine lv_iconst (v := (2 : Int32)) F.1.1 F.1.2.1 dL_law_926 (by decide) ?_
  refine lv_iadd F.1.1 F.1.2.1 dL_law_927 ?_
  refine r_sld F hX hbl hbA hS dL_law_928 hf (fun hf => ?_)
  refine lv_aload_n F.1.1 F.1.2.1 dL_law_929 rfl (lv_at hl 0 rfl) ?_
  refine lv_iload_n F.1.1 F.1.2.1 dL_law_930 rfl (lv_at hl 3 rfl) ?_
  refine lv_iconst (v := (3 : Int32)) F.1.1 F.1.2.1 dL_law_931 (by decide) ?_
  refine lv_iadd F.1.1 F.1.2.1 dL_law_932 ?_
  refine r_sld F hX hbl hbA hS dL_law_933 hf (fun hf => ?_)
  obtain ⟨r_174, μ_172, hc_173, hf⟩ := bnd_some hf
  refine rV1 (R := room_1) (As := [.int (xs ((x3 + (1 : Int32))).toNatClampNeg), .int (xs ((x3 + (2 : Int32))).toNatClampNeg), .int (xs ((x3 + (3 : Int32))).toNatClampNeg)]) (rest := [.long r_171]) F hP hS hl (mX6_cell l G F.2.2.2.2 (xs ((x3 + (1 : Int32))).toNatClampNeg) (xs ((x3 + (2 : Int32))).toNatClampNeg) (xs ((x3 + (3 : Int32))).toNatClampNeg) _ _ _ hc_173) gL_law_X6_cell rfl hdX6_cell rfl rfl rfl ⟨Nat.le_of_ble_eq_true rfl, Nat.le_of_ble_eq_true rfl⟩ (by decide) rfl rfl rfl (Nat.le_of_ble_eq_true rfl) hcs dL_law_934 (fun H locs hP hS => ?_)
  refine W.lcmp F.1.1 F.1.2.1 dL_law_937 ?_
  refine jz_eq (tgt := 1134) F dL_law_938 (by decide) hf (fun hf => ?_) (fun hf => ?_)
  · refine top_n hf (fun y_175 ey_175 hf => ?_)
    refine lv_iinc (v := y_175) (lv' := [(3, .int y_175), (0, .ref b), (1, .ref (ga G 0)), (2, .ref (ga G 31))]) F.1.1 F.1.2.1 dL_law_1134 hl (k := 3) rfl ey_175 (by decide) rfl (fun ls hl => ?_)
    refine lv_goto (tgt := 18) F.1.1 F.1.2.1 dL_law_1137 (by decide) ?_
    exact ih18 y_175 μ_172 H locs ls hP hS (lv_sub hl [1, 2, 3, 0] rfl) hf
  · refine lv_iconst (v := (0 : Int32)) F.1.1 F.1.2.1 dL_law_941 (by decide) ?_
    exact absurd hf law_no
set_option maxHeartbeats 4000000 in
set_option maxRecDepth 100000 in
theorem tL_25 (l : Launch) (G : GT) {p : Program} {e : Env} {s : State} {m : MethodId} {below : List Frame} {meth : Method} {c : Code} {b L : Nat} {xs : Nat → Int32} {C S : Nat} {μ' : Mem} (F : Fx p s m #[Value.ref b] meth c cL_law 4 wsL_law RL ret G) (hX : va_X b L xs s s.heap) (hbl : b < s.heap.size) (hbA : ¬ gA G b) (hcs : C ≤ room_1.cells ∧ S ≤ room_1.slots) (K18 : Int32 → Mem → Option (Int32 × Mem)) (ih18 : ∀ (x3 : Int32) (μ : Mem) (H : Heap) (locs : List Loc) (ls : Array Slot), Hh G μ H → va_S (gA G) s.heap H locs → lv_has ls 4 [(0, .ref b), (1, .ref (ga G 0)), (2, .ref (ga G 31)), (3, .int x3)] → K18 x3 μ = some (1, μ') → W p l e room_1 s m #[Value.ref b] below meth c H locs C S (lw_Z below #[Value.ref b] s) (F0 m 18 ls [])) (x3 : Int32) (μ : Mem) (H : Heap) (locs : List Loc) (ls : Array Slot) (hP : Hh G μ H) (hS : va_S (gA G) s.heap H locs) (hl : lv_has ls 4 [(0, .ref b), (1, .ref (ga G 0)), (2, .ref (ga G 31)), (3, .int x3)]) (hf : cL_25 xs L K18 x3 μ = some (1, μ')) : W p l e room_1 s m #[Value.ref b] below meth c H locs C S (lw_Z below #[Value.ref b] s) (F0 m 943 ls []) := by
  unfold cL_25 at hf
  refine lv_aload_n F.1.1 F.1.2.1 dL_law_943 rfl (lv_at hl 1 rfl) ?_
  refine lv_aload_n F.1.1 F.1.2.1 dL_law_944 rfl (lv_at hl 0 rfl) ?_
  refine lv_iload_n F.1.1 F.1.2.1 dL_law_945 rfl (lv_at hl 3 rfl) ?_
  refine lv_iconst (v := (1 : Int32)) F.1.1 F.1.2.1 dL_law_946 (by decide) ?_
  refine lv_iadd F.1.1 F.1.2.1 dL_law_947 ?_
  refine r_sld F hX hbl hbA hS dL_law_948 hf (fun hf => ?_)
  refine lv_aload_n F.1.1 F.1.2.1 dL_law_949 rfl (lv_at hl 0 rfl) ?_
  refine lv_iload_n F.1.1 F.1.2.1 dL_law_950 rfl (lv_at hl 3 rfl) ?_
  refine lv_iconst (v := (2 : Int32)) F.1.1 F.1.2.1 dL_law_951 (by decide) ?_
  refine lv_iadd F.1.1 F.1.2.1 dL_law_952 ?_
  refine r_sld F hX hbl hbA hS dL_law_953 hf (fun hf => ?_)
  refine lv_aload_n F.1.1 F.1.2.1 dL_law_954 rfl (lv_at hl 0 rfl) ?_
  refine lv_iload_n F.1.1 F.1.2.1 dL_law_955 rfl (lv_at hl 3 rfl) ?_
  refine lv_iconst (v := (3 : Int32)) F.1.1 F.1.2.1 dL_law_956 (by decide) ?_
  refine lv_iadd F.1.1 F.1.2.1 dL_law_957 ?_
  refine r_sld F hX hbl hbA hS dL_law_958 hf (fun hf => ?_)
  refine lv_aload_n F.1.1 F.1.2.1 dL_law_959 rfl (lv_at hl 0 rfl) ?_
  refine lv_iload_n F.1.1 F.1.2.1 dL_law_960 rfl (lv_at hl 3 rfl) ?_
  refine lv_iconst (v := (4 : Int32)) F.1.1 F.1.2.1 dL_law_961 (by decide) ?_
  refine lv_iadd F.1.1 F.1.2.1 dL_law_962 ?_
  refine r_sld F hX hbl hbA hS dL_law_963 hf (fun hf => ?_)
  refine lv_aload_n F.1.1 F.1.2.1 dL_law_964 rfl (lv_at hl 0 rfl) ?_
  refine lv_iload_n F.1.1 F.1.2.1 dL_law_965 rfl (lv_at hl 3 rfl) ?_
  refine lv_iconst (v := (5 : Int32)) F.1.1 F.1.2.1 dL_law_966 (by decide) ?_
  refine lv_iadd F.1.1 F.1.2.1 dL_law_967 ?_
  refine r_sld F hX hbl hbA hS dL_law_968 hf (fun hf => ?_)
  obtain ⟨r_178, μ_176, hc_177, hf⟩ := bnd_some hf
  refine rV1 (R := room_1) (As := [.int (xs ((x3 + (1 : Int32))).toNatClampNeg), .int (xs ((x3 + (2 : Int32))).toNatClampNeg), .int (xs ((x3 + (3 : Int32))).toNatClampNeg), .int (xs ((x3 + (4 : Int32))).toNatClampNeg), .int (xs ((x3 + (5 : Int32))).toNatClampNeg)]) (rest := []) F hP hS hl (mX5_copy l G F.2.2.2.2 (xs ((x3 + (1 : Int32))).toNatClampNeg) (xs ((x3 + (2 : Int32))).toNatClampNeg) (xs ((x3 + (3 : Int32))).toNatClampNeg) (xs ((x3 + (4 : Int32))).toNatClampNeg) (xs ((x3 + (5 : Int32))).toNatClampNeg) _ _ _ hc_177) gL_law_X5_copy rfl hdX5_copy rfl rfl rfl ⟨Nat.le_of_ble_eq_true rfl, Nat.le_of_ble_eq_true rfl⟩ (by decide) rfl rfl rfl (Nat.le_of_ble_eq_true rfl) hcs dL_law_969 (fun H locs hP hS => ?_)
  refine lv_aload_n F.1.1 F.1.2.1 dL_law_972 rfl (lv_at hl 2 rfl) ?_
  refine lv_aload_n F.1.1 F.1.2.1 dL_law_973 rfl (lv_at hl 0 rfl) ?_
  refine lv_iload_n F.1.1 F.1.2.1 dL_law_974 rfl (lv_at hl 3 rfl) ?_
  refine lv_iconst (v := (1 : Int32)) F.1.1 F.1.2.1 dL_law_975 (by decide) ?_
  refine lv_iadd F.1.1 F.1.2.1 dL_law_976 ?_
  refine r_sld F hX hbl hbA hS dL_law_977 hf (fun hf => ?_)
  refine lv_aload_n F.1.1 F.1.2.1 dL_law_978 rfl (lv_at hl 0 rfl) ?_
  refine lv_iload_n F.1.1 F.1.2.1 dL_law_979 rfl (lv_at hl 3 rfl) ?_
  refine lv_iconst (v := (2 : Int32)) F.1.1 F.1.2.1 dL_law_980 (by decide) ?_
  refine lv_iadd F.1.1 F.1.2.1 dL_law_981 ?_
  refine r_sld F hX hbl hbA hS dL_law_982 hf (fun hf => ?_)
  refine lv_aload_n F.1.1 F.1.2.1 dL_law_983 rfl (lv_at hl 0 rfl) ?_
  refine lv_iload_n F.1.1 F.1.2.1 dL_law_984 rfl (lv_at hl 3 rfl) ?_
  refine lv_iconst (v := (3 : Int32)) F.1.1 F.1.2.1 dL_law_985 (by decide) ?_
  refine lv_iadd F.1.1 F.1.2.1 dL_law_986 ?_
  refine r_sld F hX hbl hbA hS dL_law_987 hf (fun hf => ?_)
  refine lv_aload_n F.1.1 F.1.2.1 dL_law_988 rfl (lv_at hl 0 rfl) ?_
  refine lv_iload_n F.1.1 F.1.2.1 dL_law_989 rfl (lv_at hl 3 rfl) ?_
  refine lv_iconst (v := (4 : Int32)) F.1.1 F.1.2.1 dL_law_990 (by decide) ?_
  refine lv_iadd F.1.1 F.1.2.1 dL_law_991 ?_
  refine r_sld F hX hbl hbA hS dL_law_992 hf (fun hf => ?_)
  refine lv_aload_n F.1.1 F.1.2.1 dL_law_993 rfl (lv_at hl 0 rfl) ?_
  refine lv_iload_n F.1.1 F.1.2.1 dL_law_994 rfl (lv_at hl 3 rfl) ?_
  refine lv_iconst (v := (5 : Int32)) F.1.1 F.1.2.1 dL_law_995 (by decide) ?_
  refine lv_iadd F.1.1 F.1.2.1 dL_law_996 ?_
  refine r_sld F hX hbl hbA hS dL_law_997 hf (fun hf => ?_)
  obtain ⟨r_181, μ_179, hc_180, hf⟩ := bnd_some hf
  refine rV1 (R := room_1) (As := [.int (xs ((x3 + (1 : Int32))).toNatClampNeg), .int (xs ((x3 + (2 : Int32))).toNatClampNeg), .int (xs ((x3 + (3 : Int32))).toNatClampNeg), .int (xs ((x3 + (4 : Int32))).toNatClampNeg), .int (xs ((x3 + (5 : Int32))).toNatClampNeg)]) (rest := [.int r_178]) F hP hS hl (mX6_copy l G F.2.2.2.2 (xs ((x3 + (1 : Int32))).toNatClampNeg) (xs ((x3 + (2 : Int32))).toNatClampNeg) (xs ((x3 + (3 : Int32))).toNatClampNeg) (xs ((x3 + (4 : Int32))).toNatClampNeg) (xs ((x3 + (5 : Int32))).toNatClampNeg) _ _ _ hc_180) gL_law_X6_copy rfl hdX6_copy rfl rfl rfl ⟨Nat.le_of_ble_eq_true rfl, Nat.le_of_ble_eq_true rfl⟩ (by decide) rfl rfl rfl (Nat.le_of_ble_eq_true rfl) hcs dL_law_998 (fun H locs hP hS => ?_)
  refine jc_eq (tgt := 1134) F dL_law_1001 (by decide) hf (fun hf => ?_) (fun hf => ?_)
  · refine top_n hf (fun y_182 ey_182 hf => ?_)
    refine lv_iinc (v := y_182) (lv' := [(3, .int y_182), (0, .ref b), (1, .ref (ga G 0)), (2, .ref (ga G 31))]) F.1.1 F.1.2.1 dL_law_1134 hl (k := 3) rfl ey_182 (by decide) rfl (fun ls hl => ?_)
    refine lv_goto (tgt := 18) F.1.1 F.1.2.1 dL_law_1137 (by decide) ?_
    exact ih18 y_182 μ_179 H locs ls hP hS (lv_sub hl [1, 2, 3, 0] rfl) hf
  · refine lv_iconst (v := (0 : Int32)) F.1.1 F.1.2.1 dL_law_1004 (by decide) ?_
    exact absurd hf law_no
set_option maxHeartbeats 4000000 in
set_option maxRecDepth 100000 in
theorem tL_26 (l : Launch) (G : GT) {p : Program} {e : Env} {s : State} {m : MethodId} {below : List Frame} {meth : Method} {c : Code} {b L : Nat} {xs : Nat → Int32} {C S : Nat} {μ' : Mem} (F : Fx p s m #[Value.ref b] meth c cL_law 4 wsL_law RL ret G) (hX : va_X b L xs s s.heap) (hbl : b < s.heap.size) (hbA : ¬ gA G b) (hcs : C ≤ room_1.cells ∧ S ≤ room_1.slots) (K18 : Int32 → Mem → Option (Int32 × Mem)) (ih18 : ∀ (x3 : Int32) (μ : Mem) (H : Heap) (locs : List Loc) (ls : Array Slot), Hh G μ H → va_S (gA G) s.heap H locs → lv_has ls 4 [(0, .ref b), (1, .ref (ga G 0)), (2, .ref (ga G 31)), (3, .int x3)] → K18 x3 μ = some (1, μ') → W p l e room_1 s m #[Value.ref b] below meth c H locs C S (lw_Z below #[Value.ref b] s) (F0 m 18 ls [])) (x3 : Int32) (μ : Mem) (H : Heap) (locs : List Loc) (ls : Array Slot) (hP : Hh G μ H) (hS : va_S (gA G) s.heap H locs) (hl : lv_has ls 4 [(0, .ref b), (1, .ref (ga G 0)), (2, .ref (ga G 31)), (3, .int x3)]) (hf : cL_26 xs L K18 x3 μ = some (1, μ')) : W p l e room_1 s m #[Value.ref b] below meth c H locs C S (lw_Z below #[Value.ref b] s) (F0 m 1006 ls []) := by
  unfold cL_26 at hf
  refine lv_aload_n F.1.1 F.1.2.1 dL_law_1006 rfl (lv_at hl 1 rfl) ?_
  refine lv_aload_n F.1.1 F.1.2.1 dL_law_1007 rfl (lv_at hl 0 rfl) ?_
  refine lv_iload_n F.1.1 F.1.2.1 dL_law_1008 rfl (lv_at hl 3 rfl) ?_
  refine lv_iconst (v := (1 : Int32)) F.1.1 F.1.2.1 dL_law_1009 (by decide) ?_
  refine lv_iadd F.1.1 F.1.2.1 dL_law_1010 ?_
  refine r_sld F hX hbl hbA hS dL_law_1011 hf (fun hf => ?_)
  obtain ⟨r_185, μ_183, hc_184, hf⟩ := bnd_some hf
  refine rV1 (R := room_1) (As := [.int (xs ((x3 + (1 : Int32))).toNatClampNeg)]) (rest := []) F hP hS hl (mX5_tell l G F.2.2.2.2 (xs ((x3 + (1 : Int32))).toNatClampNeg) _ _ _ hc_184) gL_law_X5_tell rfl hdX5_tell rfl rfl rfl ⟨Nat.le_of_ble_eq_true rfl, Nat.le_of_ble_eq_true rfl⟩ (by decide) rfl rfl rfl (Nat.le_of_ble_eq_true rfl) hcs dL_law_1012 (fun H locs hP hS => ?_)
  refine lv_aload_n F.1.1 F.1.2.1 dL_law_1015 rfl (lv_at hl 2 rfl) ?_
  refine lv_aload_n F.1.1 F.1.2.1 dL_law_1016 rfl (lv_at hl 0 rfl) ?_
  refine lv_iload_n F.1.1 F.1.2.1 dL_law_1017 rfl (lv_at hl 3 rfl) ?_
  refine lv_iconst (v := (1 : Int32)) F.1.1 F.1.2.1 dL_law_1018 (by decide) ?_
  refine lv_iadd F.1.1 F.1.2.1 dL_law_1019 ?_
  refine r_sld F hX hbl hbA hS dL_law_1020 hf (fun hf => ?_)
  obtain ⟨r_188, μ_186, hc_187, hf⟩ := bnd_some hf
  refine rV1 (R := room_1) (As := [.int (xs ((x3 + (1 : Int32))).toNatClampNeg)]) (rest := [.int r_185]) F hP hS hl (mX6_tell l G F.2.2.2.2 (xs ((x3 + (1 : Int32))).toNatClampNeg) _ _ _ hc_187) gL_law_X6_tell rfl hdX6_tell rfl rfl rfl ⟨Nat.le_of_ble_eq_true rfl, Nat.le_of_ble_eq_true rfl⟩ (by decide) rfl rfl rfl (Nat.le_of_ble_eq_true rfl) hcs dL_law_1021 (fun H locs hP hS => ?_)
  refine jc_eq (tgt := 1134) F dL_law_1024 (by decide) hf (fun hf => ?_) (fun hf => ?_)
  · refine top_n hf (fun y_189 ey_189 hf => ?_)
    refine lv_iinc (v := y_189) (lv' := [(3, .int y_189), (0, .ref b), (1, .ref (ga G 0)), (2, .ref (ga G 31))]) F.1.1 F.1.2.1 dL_law_1134 hl (k := 3) rfl ey_189 (by decide) rfl (fun ls hl => ?_)
    refine lv_goto (tgt := 18) F.1.1 F.1.2.1 dL_law_1137 (by decide) ?_
    exact ih18 y_189 μ_186 H locs ls hP hS (lv_sub hl [1, 2, 3, 0] rfl) hf
  · refine lv_iconst (v := (0 : Int32)) F.1.1 F.1.2.1 dL_law_1027 (by decide) ?_
    exact absurd hf law_no
set_option maxHeartbeats 4000000 in
set_option maxRecDepth 100000 in
theorem tL_27 (l : Launch) (G : GT) {p : Program} {e : Env} {s : State} {m : MethodId} {below : List Frame} {meth : Method} {c : Code} {b L : Nat} {xs : Nat → Int32} {C S : Nat} {μ' : Mem} (F : Fx p s m #[Value.ref b] meth c cL_law 4 wsL_law RL ret G) (hX : va_X b L xs s s.heap) (hbl : b < s.heap.size) (hbA : ¬ gA G b) (hcs : C ≤ room_1.cells ∧ S ≤ room_1.slots) (K18 : Int32 → Mem → Option (Int32 × Mem)) (ih18 : ∀ (x3 : Int32) (μ : Mem) (H : Heap) (locs : List Loc) (ls : Array Slot), Hh G μ H → va_S (gA G) s.heap H locs → lv_has ls 4 [(0, .ref b), (1, .ref (ga G 0)), (2, .ref (ga G 31)), (3, .int x3)] → K18 x3 μ = some (1, μ') → W p l e room_1 s m #[Value.ref b] below meth c H locs C S (lw_Z below #[Value.ref b] s) (F0 m 18 ls [])) (x3 : Int32) (μ : Mem) (H : Heap) (locs : List Loc) (ls : Array Slot) (hP : Hh G μ H) (hS : va_S (gA G) s.heap H locs) (hl : lv_has ls 4 [(0, .ref b), (1, .ref (ga G 0)), (2, .ref (ga G 31)), (3, .int x3)]) (hf : cL_27 xs L K18 x3 μ = some (1, μ')) : W p l e room_1 s m #[Value.ref b] below meth c H locs C S (lw_Z below #[Value.ref b] s) (F0 m 1029 ls []) := by
  unfold cL_27 at hf
  refine lv_aload_n F.1.1 F.1.2.1 dL_law_1029 rfl (lv_at hl 1 rfl) ?_
  refine lv_aload_n F.1.1 F.1.2.1 dL_law_1030 rfl (lv_at hl 0 rfl) ?_
  refine lv_iload_n F.1.1 F.1.2.1 dL_law_1031 rfl (lv_at hl 3 rfl) ?_
  refine lv_iconst (v := (1 : Int32)) F.1.1 F.1.2.1 dL_law_1032 (by decide) ?_
  refine lv_iadd F.1.1 F.1.2.1 dL_law_1033 ?_
  refine r_sld F hX hbl hbA hS dL_law_1034 hf (fun hf => ?_)
  obtain ⟨r_192, μ_190, hc_191, hf⟩ := bnd_some hf
  refine rV1 (R := room_1) (As := [.int (xs ((x3 + (1 : Int32))).toNatClampNeg)]) (rest := []) F hP hS hl (mX5_stroke l G F.2.2.2.2 (xs ((x3 + (1 : Int32))).toNatClampNeg) _ _ _ hc_191) gL_law_X5_stroke rfl hdX5_stroke rfl rfl rfl ⟨Nat.le_of_ble_eq_true rfl, Nat.le_of_ble_eq_true rfl⟩ (by decide) rfl rfl rfl (Nat.le_of_ble_eq_true rfl) hcs dL_law_1035 (fun H locs hP hS => ?_)
  refine lv_aload_n F.1.1 F.1.2.1 dL_law_1038 rfl (lv_at hl 2 rfl) ?_
  refine lv_aload_n F.1.1 F.1.2.1 dL_law_1039 rfl (lv_at hl 0 rfl) ?_
  refine lv_iload_n F.1.1 F.1.2.1 dL_law_1040 rfl (lv_at hl 3 rfl) ?_
  refine lv_iconst (v := (1 : Int32)) F.1.1 F.1.2.1 dL_law_1041 (by decide) ?_
  refine lv_iadd F.1.1 F.1.2.1 dL_law_1042 ?_
  refine r_sld F hX hbl hbA hS dL_law_1043 hf (fun hf => ?_)
  obtain ⟨r_195, μ_193, hc_194, hf⟩ := bnd_some hf
  refine rV1 (R := room_1) (As := [.int (xs ((x3 + (1 : Int32))).toNatClampNeg)]) (rest := [.int r_192]) F hP hS hl (mX6_stroke l G F.2.2.2.2 (xs ((x3 + (1 : Int32))).toNatClampNeg) _ _ _ hc_194) gL_law_X6_stroke rfl hdX6_stroke rfl rfl rfl ⟨Nat.le_of_ble_eq_true rfl, Nat.le_of_ble_eq_true rfl⟩ (by decide) rfl rfl rfl (Nat.le_of_ble_eq_true rfl) hcs dL_law_1044 (fun H locs hP hS => ?_)
  refine jc_eq (tgt := 1134) F dL_law_1047 (by decide) hf (fun hf => ?_) (fun hf => ?_)
  · refine top_n hf (fun y_196 ey_196 hf => ?_)
    refine lv_iinc (v := y_196) (lv' := [(3, .int y_196), (0, .ref b), (1, .ref (ga G 0)), (2, .ref (ga G 31))]) F.1.1 F.1.2.1 dL_law_1134 hl (k := 3) rfl ey_196 (by decide) rfl (fun ls hl => ?_)
    refine lv_goto (tgt := 18) F.1.1 F.1.2.1 dL_law_1137 (by decide) ?_
    exact ih18 y_196 μ_193 H locs ls hP hS (lv_sub hl [1, 2, 3, 0] rfl) hf
  · refine lv_iconst (v := (0 : Int32)) F.1.1 F.1.2.1 dL_law_1050 (by decide) ?_
    exact absurd hf law_no
set_option maxHeartbeats 4000000 in
set_option maxRecDepth 100000 in
theorem tL_28 (l : Launch) (G : GT) {p : Program} {e : Env} {s : State} {m : MethodId} {below : List Frame} {meth : Method} {c : Code} {b L : Nat} {xs : Nat → Int32} {C S : Nat} {μ' : Mem} (F : Fx p s m #[Value.ref b] meth c cL_law 4 wsL_law RL ret G) (hX : va_X b L xs s s.heap) (hbl : b < s.heap.size) (hbA : ¬ gA G b) (hcs : C ≤ room_1.cells ∧ S ≤ room_1.slots) (K18 : Int32 → Mem → Option (Int32 × Mem)) (ih18 : ∀ (x3 : Int32) (μ : Mem) (H : Heap) (locs : List Loc) (ls : Array Slot), Hh G μ H → va_S (gA G) s.heap H locs → lv_has ls 4 [(0, .ref b), (1, .ref (ga G 0)), (2, .ref (ga G 31)), (3, .int x3)] → K18 x3 μ = some (1, μ') → W p l e room_1 s m #[Value.ref b] below meth c H locs C S (lw_Z below #[Value.ref b] s) (F0 m 18 ls [])) (x3 : Int32) (μ : Mem) (H : Heap) (locs : List Loc) (ls : Array Slot) (hP : Hh G μ H) (hS : va_S (gA G) s.heap H locs) (hl : lv_has ls 4 [(0, .ref b), (1, .ref (ga G 0)), (2, .ref (ga G 31)), (3, .int x3)]) (hf : cL_28 xs L K18 x3 μ = some (1, μ')) : W p l e room_1 s m #[Value.ref b] below meth c H locs C S (lw_Z below #[Value.ref b] s) (F0 m 1052 ls []) := by
  unfold cL_28 at hf
  refine lv_aload_n F.1.1 F.1.2.1 dL_law_1052 rfl (lv_at hl 1 rfl) ?_
  refine lv_aload_n F.1.1 F.1.2.1 dL_law_1053 rfl (lv_at hl 0 rfl) ?_
  refine lv_iload_n F.1.1 F.1.2.1 dL_law_1054 rfl (lv_at hl 3 rfl) ?_
  refine lv_iconst (v := (1 : Int32)) F.1.1 F.1.2.1 dL_law_1055 (by decide) ?_
  refine lv_iadd F.1.1 F.1.2.1 dL_law_1056 ?_
  refine r_sld F hX hbl hbA hS dL_law_1057 hf (fun hf => ?_)
  refine lv_aload_n F.1.1 F.1.2.1 dL_law_1058 rfl (lv_at hl 0 rfl) ?_
  refine lv_iload_n F.1.1 F.1.2.1 dL_law_1059 rfl (lv_at hl 3 rfl) ?_
  refine lv_iconst (v := (2 : Int32)) F.1.1 F.1.2.1 dL_law_1060 (by decide) ?_
  refine lv_iadd F.1.1 F.1.2.1 dL_law_1061 ?_
  refine r_sld F hX hbl hbA hS dL_law_1062 hf (fun hf => ?_)
  obtain ⟨r_199, μ_197, hc_198, hf⟩ := bnd_some hf
  refine rV1 (R := room_1) (As := [.int (xs ((x3 + (1 : Int32))).toNatClampNeg), .int (xs ((x3 + (2 : Int32))).toNatClampNeg)]) (rest := []) F hP hS hl (mX5_as l G F.2.2.2.2 (xs ((x3 + (1 : Int32))).toNatClampNeg) (xs ((x3 + (2 : Int32))).toNatClampNeg) _ _ _ hc_198) gL_law_X5_as rfl hdX5_as rfl rfl rfl ⟨Nat.le_of_ble_eq_true rfl, Nat.le_of_ble_eq_true rfl⟩ (by decide) rfl rfl rfl (Nat.le_of_ble_eq_true rfl) hcs dL_law_1063 (fun H locs hP hS => ?_)
  refine lv_aload_n F.1.1 F.1.2.1 dL_law_1066 rfl (lv_at hl 2 rfl) ?_
  refine lv_aload_n F.1.1 F.1.2.1 dL_law_1067 rfl (lv_at hl 0 rfl) ?_
  refine lv_iload_n F.1.1 F.1.2.1 dL_law_1068 rfl (lv_at hl 3 rfl) ?_
  refine lv_iconst (v := (1 : Int32)) F.1.1 F.1.2.1 dL_law_1069 (by decide) ?_
  refine lv_iadd F.1.1 F.1.2.1 dL_law_1070 ?_
  refine r_sld F hX hbl hbA hS dL_law_1071 hf (fun hf => ?_)
  refine lv_aload_n F.1.1 F.1.2.1 dL_law_1072 rfl (lv_at hl 0 rfl) ?_
  refine lv_iload_n F.1.1 F.1.2.1 dL_law_1073 rfl (lv_at hl 3 rfl) ?_
  refine lv_iconst (v := (2 : Int32)) F.1.1 F.1.2.1 dL_law_1074 (by decide) ?_
  refine lv_iadd F.1.1 F.1.2.1 dL_law_1075 ?_
  refine r_sld F hX hbl hbA hS dL_law_1076 hf (fun hf => ?_)
  obtain ⟨r_202, μ_200, hc_201, hf⟩ := bnd_some hf
  refine rV1 (R := room_1) (As := [.int (xs ((x3 + (1 : Int32))).toNatClampNeg), .int (xs ((x3 + (2 : Int32))).toNatClampNeg)]) (rest := [.int r_199]) F hP hS hl (mX6_as l G F.2.2.2.2 (xs ((x3 + (1 : Int32))).toNatClampNeg) (xs ((x3 + (2 : Int32))).toNatClampNeg) _ _ _ hc_201) gL_law_X6_as rfl hdX6_as rfl rfl rfl ⟨Nat.le_of_ble_eq_true rfl, Nat.le_of_ble_eq_true rfl⟩ (by decide) rfl rfl rfl (Nat.le_of_ble_eq_true rfl) hcs dL_law_1077 (fun H locs hP hS => ?_)
  refine jc_eq (tgt := 1134) F dL_law_1080 (by decide) hf (fun hf => ?_) (fun hf => ?_)
  · refine top_n hf (fun y_203 ey_203 hf => ?_)
    refine lv_iinc (v := y_203) (lv' := [(3, .int y_203), (0, .ref b), (1, .ref (ga G 0)), (2, .ref (ga G 31))]) F.1.1 F.1.2.1 dL_law_1134 hl (k := 3) rfl ey_203 (by decide) rfl (fun ls hl => ?_)
    refine lv_goto (tgt := 18) F.1.1 F.1.2.1 dL_law_1137 (by decide) ?_
    exact ih18 y_203 μ_200 H locs ls hP hS (lv_sub hl [1, 2, 3, 0] rfl) hf
  · refine lv_iconst (v := (0 : Int32)) F.1.1 F.1.2.1 dL_law_1083 (by decide) ?_
    exact absurd hf law_no
set_option maxHeartbeats 4000000 in
set_option maxRecDepth 100000 in
theorem tL_29 (l : Launch) (G : GT) {p : Program} {e : Env} {s : State} {m : MethodId} {below : List Frame} {meth : Method} {c : Code} {b L : Nat} {xs : Nat → Int32} {C S : Nat} {μ' : Mem} (F : Fx p s m #[Value.ref b] meth c cL_law 4 wsL_law RL ret G) (hX : va_X b L xs s s.heap) (hbl : b < s.heap.size) (hbA : ¬ gA G b) (hcs : C ≤ room_1.cells ∧ S ≤ room_1.slots) (K18 : Int32 → Mem → Option (Int32 × Mem)) (ih18 : ∀ (x3 : Int32) (μ : Mem) (H : Heap) (locs : List Loc) (ls : Array Slot), Hh G μ H → va_S (gA G) s.heap H locs → lv_has ls 4 [(0, .ref b), (1, .ref (ga G 0)), (2, .ref (ga G 31)), (3, .int x3)] → K18 x3 μ = some (1, μ') → W p l e room_1 s m #[Value.ref b] below meth c H locs C S (lw_Z below #[Value.ref b] s) (F0 m 18 ls [])) (x3 : Int32) (μ : Mem) (H : Heap) (locs : List Loc) (ls : Array Slot) (hP : Hh G μ H) (hS : va_S (gA G) s.heap H locs) (hl : lv_has ls 4 [(0, .ref b), (1, .ref (ga G 0)), (2, .ref (ga G 31)), (3, .int x3)]) (hf : cL_29 xs L K18 x3 μ = some (1, μ')) : W p l e room_1 s m #[Value.ref b] below meth c H locs C S (lw_Z below #[Value.ref b] s) (F0 m 1085 ls []) := by
  unfold cL_29 at hf
  refine lv_aload_n F.1.1 F.1.2.1 dL_law_1085 rfl (lv_at hl 1 rfl) ?_
  obtain ⟨r_206, μ_204, hc_205, hf⟩ := bnd_some hf
  refine rV1 (R := room_1) (As := []) (rest := []) F hP hS hl (mX5_trace l G F.2.2.2.2  _ _ _ hc_205) gL_law_X5_trace rfl hdX5_trace rfl rfl rfl ⟨Nat.le_of_ble_eq_true rfl, Nat.le_of_ble_eq_true rfl⟩ (by decide) rfl rfl rfl (Nat.le_of_ble_eq_true rfl) hcs dL_law_1086 (fun H locs hP hS => ?_)
  refine lv_aload_n F.1.1 F.1.2.1 dL_law_1089 rfl (lv_at hl 2 rfl) ?_
  obtain ⟨r_209, μ_207, hc_208, hf⟩ := bnd_some hf
  refine rV1 (R := room_1) (As := []) (rest := [.int r_206]) F hP hS hl (mX6_trace l G F.2.2.2.2  _ _ _ hc_208) gL_law_X6_trace rfl hdX6_trace rfl rfl rfl ⟨Nat.le_of_ble_eq_true rfl, Nat.le_of_ble_eq_true rfl⟩ (by decide) rfl rfl rfl (Nat.le_of_ble_eq_true rfl) hcs dL_law_1090 (fun H locs hP hS => ?_)
  refine jc_eq (tgt := 1134) F dL_law_1093 (by decide) hf (fun hf => ?_) (fun hf => ?_)
  · refine top_n hf (fun y_210 ey_210 hf => ?_)
    refine lv_iinc (v := y_210) (lv' := [(3, .int y_210), (0, .ref b), (1, .ref (ga G 0)), (2, .ref (ga G 31))]) F.1.1 F.1.2.1 dL_law_1134 hl (k := 3) rfl ey_210 (by decide) rfl (fun ls hl => ?_)
    refine lv_goto (tgt := 18) F.1.1 F.1.2.1 dL_law_1137 (by decide) ?_
    exact ih18 y_210 μ_207 H locs ls hP hS (lv_sub hl [1, 2, 3, 0] rfl) hf
  · refine lv_iconst (v := (0 : Int32)) F.1.1 F.1.2.1 dL_law_1096 (by decide) ?_
    exact absurd hf law_no
set_option maxHeartbeats 4000000 in
set_option maxRecDepth 100000 in
theorem tL_30 (l : Launch) (G : GT) {p : Program} {e : Env} {s : State} {m : MethodId} {below : List Frame} {meth : Method} {c : Code} {b L : Nat} {xs : Nat → Int32} {C S : Nat} {μ' : Mem} (F : Fx p s m #[Value.ref b] meth c cL_law 4 wsL_law RL ret G) (hX : va_X b L xs s s.heap) (hbl : b < s.heap.size) (hbA : ¬ gA G b) (hcs : C ≤ room_1.cells ∧ S ≤ room_1.slots) (K18 : Int32 → Mem → Option (Int32 × Mem)) (ih18 : ∀ (x3 : Int32) (μ : Mem) (H : Heap) (locs : List Loc) (ls : Array Slot), Hh G μ H → va_S (gA G) s.heap H locs → lv_has ls 4 [(0, .ref b), (1, .ref (ga G 0)), (2, .ref (ga G 31)), (3, .int x3)] → K18 x3 μ = some (1, μ') → W p l e room_1 s m #[Value.ref b] below meth c H locs C S (lw_Z below #[Value.ref b] s) (F0 m 18 ls [])) (x3 : Int32) (μ : Mem) (H : Heap) (locs : List Loc) (ls : Array Slot) (hP : Hh G μ H) (hS : va_S (gA G) s.heap H locs) (hl : lv_has ls 4 [(0, .ref b), (1, .ref (ga G 0)), (2, .ref (ga G 31)), (3, .int x3)]) (hf : cL_30 xs L K18 x3 μ = some (1, μ')) : W p l e room_1 s m #[Value.ref b] below meth c H locs C S (lw_Z below #[Value.ref b] s) (F0 m 1098 ls []) := by
  unfold cL_30 at hf
  refine lv_aload_n F.1.1 F.1.2.1 dL_law_1098 rfl (lv_at hl 1 rfl) ?_
  obtain ⟨r_213, μ_211, hc_212, hf⟩ := bnd_some hf
  refine rV1 (R := room_1) (As := []) (rest := []) F hP hS hl (mX5_fault l G F.2.2.2.2  _ _ _ hc_212) gL_law_X5_fault rfl hdX5_fault rfl rfl rfl ⟨Nat.le_of_ble_eq_true rfl, Nat.le_of_ble_eq_true rfl⟩ (by decide) rfl rfl rfl (Nat.le_of_ble_eq_true rfl) hcs dL_law_1099 (fun H locs hP hS => ?_)
  refine lv_aload_n F.1.1 F.1.2.1 dL_law_1102 rfl (lv_at hl 2 rfl) ?_
  obtain ⟨r_216, μ_214, hc_215, hf⟩ := bnd_some hf
  refine rV1 (R := room_1) (As := []) (rest := [.int r_213]) F hP hS hl (mX6_fault l G F.2.2.2.2  _ _ _ hc_215) gL_law_X6_fault rfl hdX6_fault rfl rfl rfl ⟨Nat.le_of_ble_eq_true rfl, Nat.le_of_ble_eq_true rfl⟩ (by decide) rfl rfl rfl (Nat.le_of_ble_eq_true rfl) hcs dL_law_1103 (fun H locs hP hS => ?_)
  refine jc_eq (tgt := 1134) F dL_law_1106 (by decide) hf (fun hf => ?_) (fun hf => ?_)
  · refine top_n hf (fun y_217 ey_217 hf => ?_)
    refine lv_iinc (v := y_217) (lv' := [(3, .int y_217), (0, .ref b), (1, .ref (ga G 0)), (2, .ref (ga G 31))]) F.1.1 F.1.2.1 dL_law_1134 hl (k := 3) rfl ey_217 (by decide) rfl (fun ls hl => ?_)
    refine lv_goto (tgt := 18) F.1.1 F.1.2.1 dL_law_1137 (by decide) ?_
    exact ih18 y_217 μ_214 H locs ls hP hS (lv_sub hl [1, 2, 3, 0] rfl) hf
  · refine lv_iconst (v := (0 : Int32)) F.1.1 F.1.2.1 dL_law_1109 (by decide) ?_
    exact absurd hf law_no
set_option maxHeartbeats 4000000 in
set_option maxRecDepth 100000 in
theorem tL_31 (l : Launch) (G : GT) {p : Program} {e : Env} {s : State} {m : MethodId} {below : List Frame} {meth : Method} {c : Code} {b L : Nat} {xs : Nat → Int32} {C S : Nat} {μ' : Mem} (F : Fx p s m #[Value.ref b] meth c cL_law 4 wsL_law RL ret G) (hX : va_X b L xs s s.heap) (hbl : b < s.heap.size) (hbA : ¬ gA G b) (hcs : C ≤ room_1.cells ∧ S ≤ room_1.slots) (K18 : Int32 → Mem → Option (Int32 × Mem)) (ih18 : ∀ (x3 : Int32) (μ : Mem) (H : Heap) (locs : List Loc) (ls : Array Slot), Hh G μ H → va_S (gA G) s.heap H locs → lv_has ls 4 [(0, .ref b), (1, .ref (ga G 0)), (2, .ref (ga G 31)), (3, .int x3)] → K18 x3 μ = some (1, μ') → W p l e room_1 s m #[Value.ref b] below meth c H locs C S (lw_Z below #[Value.ref b] s) (F0 m 18 ls [])) (x3 : Int32) (μ : Mem) (H : Heap) (locs : List Loc) (ls : Array Slot) (hP : Hh G μ H) (hS : va_S (gA G) s.heap H locs) (hl : lv_has ls 4 [(0, .ref b), (1, .ref (ga G 0)), (2, .ref (ga G 31)), (3, .int x3)]) (hf : cL_31 xs L K18 x3 μ = some (1, μ')) : W p l e room_1 s m #[Value.ref b] below meth c H locs C S (lw_Z below #[Value.ref b] s) (F0 m 1111 ls []) := by
  unfold cL_31 at hf
  refine lv_aload_n F.1.1 F.1.2.1 dL_law_1111 rfl (lv_at hl 1 rfl) ?_
  refine lv_aload_n F.1.1 F.1.2.1 dL_law_1112 rfl (lv_at hl 0 rfl) ?_
  refine lv_iload_n F.1.1 F.1.2.1 dL_law_1113 rfl (lv_at hl 3 rfl) ?_
  refine lv_iconst (v := (1 : Int32)) F.1.1 F.1.2.1 dL_law_1114 (by decide) ?_
  refine lv_iadd F.1.1 F.1.2.1 dL_law_1115 ?_
  refine r_sld F hX hbl hbA hS dL_law_1116 hf (fun hf => ?_)
  obtain ⟨r_220, μ_218, hc_219, hf⟩ := bnd_some hf
  refine rV1 (R := room_1) (As := [.int (xs ((x3 + (1 : Int32))).toNatClampNeg)]) (rest := []) F hP hS hl (mX5_many l G F.2.2.2.2 (xs ((x3 + (1 : Int32))).toNatClampNeg) _ _ _ hc_219) gL_law_X5_many rfl hdX5_many rfl rfl rfl ⟨Nat.le_of_ble_eq_true rfl, Nat.le_of_ble_eq_true rfl⟩ (by decide) rfl rfl rfl (Nat.le_of_ble_eq_true rfl) hcs dL_law_1117 (fun H locs hP hS => ?_)
  refine lv_aload_n F.1.1 F.1.2.1 dL_law_1120 rfl (lv_at hl 2 rfl) ?_
  refine lv_aload_n F.1.1 F.1.2.1 dL_law_1121 rfl (lv_at hl 0 rfl) ?_
  refine lv_iload_n F.1.1 F.1.2.1 dL_law_1122 rfl (lv_at hl 3 rfl) ?_
  refine lv_iconst (v := (1 : Int32)) F.1.1 F.1.2.1 dL_law_1123 (by decide) ?_
  refine lv_iadd F.1.1 F.1.2.1 dL_law_1124 ?_
  refine r_sld F hX hbl hbA hS dL_law_1125 hf (fun hf => ?_)
  obtain ⟨r_223, μ_221, hc_222, hf⟩ := bnd_some hf
  refine rV1 (R := room_1) (As := [.int (xs ((x3 + (1 : Int32))).toNatClampNeg)]) (rest := [.int r_220]) F hP hS hl (mX6_many l G F.2.2.2.2 (xs ((x3 + (1 : Int32))).toNatClampNeg) _ _ _ hc_222) gL_law_X6_many rfl hdX6_many rfl rfl rfl ⟨Nat.le_of_ble_eq_true rfl, Nat.le_of_ble_eq_true rfl⟩ (by decide) rfl rfl rfl (Nat.le_of_ble_eq_true rfl) hcs dL_law_1126 (fun H locs hP hS => ?_)
  refine jc_eq (tgt := 1134) F dL_law_1129 (by decide) hf (fun hf => ?_) (fun hf => ?_)
  · refine top_n hf (fun y_224 ey_224 hf => ?_)
    refine lv_iinc (v := y_224) (lv' := [(3, .int y_224), (0, .ref b), (1, .ref (ga G 0)), (2, .ref (ga G 31))]) F.1.1 F.1.2.1 dL_law_1134 hl (k := 3) rfl ey_224 (by decide) rfl (fun ls hl => ?_)
    refine lv_goto (tgt := 18) F.1.1 F.1.2.1 dL_law_1137 (by decide) ?_
    exact ih18 y_224 μ_221 H locs ls hP hS (lv_sub hl [1, 2, 3, 0] rfl) hf
  · refine lv_iconst (v := (0 : Int32)) F.1.1 F.1.2.1 dL_law_1132 (by decide) ?_
    exact absurd hf law_no
set_option maxHeartbeats 4000000 in
set_option maxRecDepth 100000 in
theorem lL_law_L18 (l : Launch) (G : GT) {p : Program} {e : Env} {s : State} {m : MethodId} {below : List Frame} {meth : Method} {c : Code} {b L : Nat} {xs : Nat → Int32} {C S : Nat} {μ' : Mem} (F : Fx p s m #[Value.ref b] meth c cL_law 4 wsL_law RL ret G) (hX : va_X b L xs s s.heap) (hbl : b < s.heap.size) (hbA : ¬ gA G b) (hgA : ∀ q, gA G q → s.heap.size ≤ q) (hcs : C ≤ room_1.cells ∧ S ≤ room_1.slots) : ∀ (fuel : Nat), ∀ (x3 : Int32) (μ : Mem) (H : Heap) (locs : List Loc) (ls : Array Slot), Hh G μ H → va_S (gA G) s.heap H locs → lv_has ls 4 [(0, .ref b), (1, .ref (ga G 0)), (2, .ref (ga G 31)), (3, .int x3)] → fL_law_L18 xs L fuel x3 μ = some (1, μ') → W p l e room_1 s m #[Value.ref b] below meth c H locs C S (lw_Z below #[Value.ref b] s) (F0 m 18 ls []) := by
  intro fuel
  induction fuel with
  | zero =>
    intro x3 μ H locs ls hP hS hl hf
    exact absurd hf (by intro h; cases h)
  | succ fuel ih18 =>
    intro x3 μ H locs ls hP hS hl hf
    have hf : sL_law_L18 xs L (fL_law_L18 xs L fuel) x3 μ = some (1, μ') := hf
    unfold sL_law_L18 at hf
    refine lv_iload_n F.1.1 F.1.2.1 dL_law_18 rfl (lv_at hl 3 rfl) ?_
    refine lv_aload_n F.1.1 F.1.2.1 dL_law_19 rfl (lv_at hl 0 rfl) ?_
    refine va_slen F.1.1 F.1.2.1 hX hbl hbA hS dL_law_20 ?_
    refine lv_bipush (v := (6 : Int32)) F.1.1 F.1.2.1 dL_law_21 (by decide) ?_
    refine lv_isub F.1.1 F.1.2.1 dL_law_23 ?_
    refine jc_gt (tgt := 1140) F dL_law_24 (by decide) hf (fun hf => ?_) (fun hf => ?_)
    · refine lv_iconst (v := (1 : Int32)) F.1.1 F.1.2.1 dL_law_1140 (by decide) ?_
      exact retLaw (hGA := True) ⟨F, hgA⟩ hS hcs dL_law_1141
    · refine lv_aload_n F.1.1 F.1.2.1 dL_law_27 rfl (lv_at hl 0 rfl) ?_
      refine lv_iload_n F.1.1 F.1.2.1 dL_law_28 rfl (lv_at hl 3 rfl) ?_
      refine r_sld F hX hbl hbA hS dL_law_29 hf (fun hf => ?_)
      refine lv_bipush (v := (31 : Int32)) F.1.1 F.1.2.1 dL_law_30 (by decide) ?_
      refine lv_iand F.1.1 F.1.2.1 dL_law_32 ?_
      refine split_sw (k := (0 : Int32)) hf (fun hk0 hf => ?_) (fun hn0 hf => ?_)
      · refine lv_tableIn (tgt := 176) (off := 143) F.1.1 F.1.2.1 dL_law_33 (by rw [hk0]; decide) (by rw [hk0]; decide) (by rw [hk0]; rfl) (by decide) ?_
        exact tL_0 l G F hX hbl hbA hcs _ ih18 x3 μ H locs ls hP hS hl hf
      refine split_sw (k := (1 : Int32)) hf (fun hk1 hf => ?_) (fun hn1 hf => ?_)
      · refine lv_tableIn (tgt := 229) (off := 196) F.1.1 F.1.2.1 dL_law_33 (by rw [hk1]; decide) (by rw [hk1]; decide) (by rw [hk1]; rfl) (by decide) ?_
        exact tL_1 l G F hX hbl hbA hcs _ ih18 x3 μ H locs ls hP hS hl hf
      refine split_sw (k := (2 : Int32)) hf (fun hk2 hf => ?_) (fun hn2 hf => ?_)
      · refine lv_tableIn (tgt := 262) (off := 229) F.1.1 F.1.2.1 dL_law_33 (by rw [hk2]; decide) (by rw [hk2]; decide) (by rw [hk2]; rfl) (by decide) ?_
        exact tL_2 l G F hX hbl hbA hcs _ ih18 x3 μ H locs ls hP hS hl hf
      refine split_sw (k := (3 : Int32)) hf (fun hk3 hf => ?_) (fun hn3 hf => ?_)
      · refine lv_tableIn (tgt := 285) (off := 252) F.1.1 F.1.2.1 dL_law_33 (by rw [hk3]; decide) (by rw [hk3]; decide) (by rw [hk3]; rfl) (by decide) ?_
        exact tL_3 l G F hX hbl hbA hcs _ ih18 x3 μ H locs ls hP hS hl hf
      refine split_sw (k := (4 : Int32)) hf (fun hk4 hf => ?_) (fun hn4 hf => ?_)
      · refine lv_tableIn (tgt := 308) (off := 275) F.1.1 F.1.2.1 dL_law_33 (by rw [hk4]; decide) (by rw [hk4]; decide) (by rw [hk4]; rfl) (by decide) ?_
        exact tL_4 l G F hX hbl hbA hcs _ ih18 x3 μ H locs ls hP hS hl hf
      refine split_sw (k := (5 : Int32)) hf (fun hk5 hf => ?_) (fun hn5 hf => ?_)
      · refine lv_tableIn (tgt := 341) (off := 308) F.1.1 F.1.2.1 dL_law_33 (by rw [hk5]; decide) (by rw [hk5]; decide) (by rw [hk5]; rfl) (by decide) ?_
        exact tL_5 l G F hX hbl hbA hcs _ ih18 x3 μ H locs ls hP hS hl hf
      refine split_sw (k := (6 : Int32)) hf (fun hk6 hf => ?_) (fun hn6 hf => ?_)
      · refine lv_tableIn (tgt := 354) (off := 321) F.1.1 F.1.2.1 dL_law_33 (by rw [hk6]; decide) (by rw [hk6]; decide) (by rw [hk6]; rfl) (by decide) ?_
        exact tL_6 l G F hX hbl hbA hcs _ ih18 x3 μ H locs ls hP hS hl hf
      refine split_sw (k := (7 : Int32)) hf (fun hk7 hf => ?_) (fun hn7 hf => ?_)
      · refine lv_tableIn (tgt := 387) (off := 354) F.1.1 F.1.2.1 dL_law_33 (by rw [hk7]; decide) (by rw [hk7]; decide) (by rw [hk7]; rfl) (by decide) ?_
        exact tL_7 l G F hX hbl hbA hcs _ ih18 x3 μ H locs ls hP hS hl hf
      refine split_sw (k := (8 : Int32)) hf (fun hk8 hf => ?_) (fun hn8 hf => ?_)
      · refine lv_tableIn (tgt := 410) (off := 377) F.1.1 F.1.2.1 dL_law_33 (by rw [hk8]; decide) (by rw [hk8]; decide) (by rw [hk8]; rfl) (by decide) ?_
        exact tL_8 l G F hX hbl hbA hcs _ ih18 x3 μ H locs ls hP hS hl hf
      refine split_sw (k := (9 : Int32)) hf (fun hk9 hf => ?_) (fun hn9 hf => ?_)
      · refine lv_tableIn (tgt := 453) (off := 420) F.1.1 F.1.2.1 dL_law_33 (by rw [hk9]; decide) (by rw [hk9]; decide) (by rw [hk9]; rfl) (by decide) ?_
        exact tL_9 l G F hX hbl hbA hcs _ ih18 x3 μ H locs ls hP hS hl hf
      refine split_sw (k := (10 : Int32)) hf (fun hk10 hf => ?_) (fun hn10 hf => ?_)
      · refine lv_tableIn (tgt := 466) (off := 433) F.1.1 F.1.2.1 dL_law_33 (by rw [hk10]; decide) (by rw [hk10]; decide) (by rw [hk10]; rfl) (by decide) ?_
        exact tL_10 l G F hX hbl hbA hcs _ ih18 x3 μ H locs ls hP hS hl hf
      refine split_sw (k := (11 : Int32)) hf (fun hk11 hf => ?_) (fun hn11 hf => ?_)
      · refine lv_tableIn (tgt := 529) (off := 496) F.1.1 F.1.2.1 dL_law_33 (by rw [hk11]; decide) (by rw [hk11]; decide) (by rw [hk11]; rfl) (by decide) ?_
        exact tL_11 l G F hX hbl hbA hcs _ ih18 x3 μ H locs ls hP hS hl hf
      refine split_sw (k := (12 : Int32)) hf (fun hk12 hf => ?_) (fun hn12 hf => ?_)
      · refine lv_tableIn (tgt := 552) (off := 519) F.1.1 F.1.2.1 dL_law_33 (by rw [hk12]; decide) (by rw [hk12]; decide) (by rw [hk12]; rfl) (by decide) ?_
        exact tL_12 l G F hX hbl hbA hcs _ ih18 x3 μ H locs ls hP hS hl hf
      refine split_sw (k := (13 : Int32)) hf (fun hk13 hf => ?_) (fun hn13 hf => ?_)
      · refine lv_tableIn (tgt := 575) (off := 542) F.1.1 F.1.2.1 dL_law_33 (by rw [hk13]; decide) (by rw [hk13]; decide) (by rw [hk13]; rfl) (by decide) ?_
        exact tL_13 l G F hX hbl hbA hcs _ ih18 x3 μ H locs ls hP hS hl hf
      refine split_sw (k := (14 : Int32)) hf (fun hk14 hf => ?_) (fun hn14 hf => ?_)
      · refine lv_tableIn (tgt := 598) (off := 565) F.1.1 F.1.2.1 dL_law_33 (by rw [hk14]; decide) (by rw [hk14]; decide) (by rw [hk14]; rfl) (by decide) ?_
        exact tL_14 l G F hX hbl hbA hcs _ ih18 x3 μ H locs ls hP hS hl hf
      refine split_sw (k := (15 : Int32)) hf (fun hk15 hf => ?_) (fun hn15 hf => ?_)
      · refine lv_tableIn (tgt := 641) (off := 608) F.1.1 F.1.2.1 dL_law_33 (by rw [hk15]; decide) (by rw [hk15]; decide) (by rw [hk15]; rfl) (by decide) ?_
        exact tL_15 l G F hX hbl hbA hcs _ ih18 x3 μ H locs ls hP hS hl hf
      refine split_sw (k := (16 : Int32)) hf (fun hk16 hf => ?_) (fun hn16 hf => ?_)
      · refine lv_tableIn (tgt := 664) (off := 631) F.1.1 F.1.2.1 dL_law_33 (by rw [hk16]; decide) (by rw [hk16]; decide) (by rw [hk16]; rfl) (by decide) ?_
        exact tL_16 l G F hX hbl hbA hcs _ ih18 x3 μ H locs ls hP hS hl hf
      refine split_sw (k := (17 : Int32)) hf (fun hk17 hf => ?_) (fun hn17 hf => ?_)
      · refine lv_tableIn (tgt := 687) (off := 654) F.1.1 F.1.2.1 dL_law_33 (by rw [hk17]; decide) (by rw [hk17]; decide) (by rw [hk17]; rfl) (by decide) ?_
        exact tL_17 l G F hX hbl hbA hcs _ ih18 x3 μ H locs ls hP hS hl hf
      refine split_sw (k := (18 : Int32)) hf (fun hk18 hf => ?_) (fun hn18 hf => ?_)
      · refine lv_tableIn (tgt := 710) (off := 677) F.1.1 F.1.2.1 dL_law_33 (by rw [hk18]; decide) (by rw [hk18]; decide) (by rw [hk18]; rfl) (by decide) ?_
        exact tL_18 l G F hX hbl hbA hcs _ ih18 x3 μ H locs ls hP hS hl hf
      refine split_sw (k := (19 : Int32)) hf (fun hk19 hf => ?_) (fun hn19 hf => ?_)
      · refine lv_tableIn (tgt := 733) (off := 700) F.1.1 F.1.2.1 dL_law_33 (by rw [hk19]; decide) (by rw [hk19]; decide) (by rw [hk19]; rfl) (by decide) ?_
        exact tL_19 l G F hX hbl hbA hcs _ ih18 x3 μ H locs ls hP hS hl hf
      refine split_sw (k := (20 : Int32)) hf (fun hk20 hf => ?_) (fun hn20 hf => ?_)
      · refine lv_tableIn (tgt := 756) (off := 723) F.1.1 F.1.2.1 dL_law_33 (by rw [hk20]; decide) (by rw [hk20]; decide) (by rw [hk20]; rfl) (by decide) ?_
        exact tL_20 l G F hX hbl hbA hcs _ ih18 x3 μ H locs ls hP hS hl hf
      refine split_sw (k := (21 : Int32)) hf (fun hk21 hf => ?_) (fun hn21 hf => ?_)
      · refine lv_tableIn (tgt := 790) (off := 757) F.1.1 F.1.2.1 dL_law_33 (by rw [hk21]; decide) (by rw [hk21]; decide) (by rw [hk21]; rfl) (by decide) ?_
        exact tL_21 l G F hX hbl hbA hcs _ ih18 x3 μ H locs ls hP hS hl hf
      refine split_sw (k := (22 : Int32)) hf (fun hk22 hf => ?_) (fun hn22 hf => ?_)
      · refine lv_tableIn (tgt := 833) (off := 800) F.1.1 F.1.2.1 dL_law_33 (by rw [hk22]; decide) (by rw [hk22]; decide) (by rw [hk22]; rfl) (by decide) ?_
        exact tL_22 l G F hX hbl hbA hcs _ ih18 x3 μ H locs ls hP hS hl hf
      refine split_sw (k := (23 : Int32)) hf (fun hk23 hf => ?_) (fun hn23 hf => ?_)
      · refine lv_tableIn (tgt := 856) (off := 823) F.1.1 F.1.2.1 dL_law_33 (by rw [hk23]; decide) (by rw [hk23]; decide) (by rw [hk23]; rfl) (by decide) ?_
        exact tL_23 l G F hX hbl hbA hcs _ ih18 x3 μ H locs ls hP hS hl hf
      refine split_sw (k := (24 : Int32)) hf (fun hk24 hf => ?_) (fun hn24 hf => ?_)
      · refine lv_tableIn (tgt := 899) (off := 866) F.1.1 F.1.2.1 dL_law_33 (by rw [hk24]; decide) (by rw [hk24]; decide) (by rw [hk24]; rfl) (by decide) ?_
        exact tL_24 l G F hX hbl hbA hcs _ ih18 x3 μ H locs ls hP hS hl hf
      refine split_sw (k := (25 : Int32)) hf (fun hk25 hf => ?_) (fun hn25 hf => ?_)
      · refine lv_tableIn (tgt := 943) (off := 910) F.1.1 F.1.2.1 dL_law_33 (by rw [hk25]; decide) (by rw [hk25]; decide) (by rw [hk25]; rfl) (by decide) ?_
        exact tL_25 l G F hX hbl hbA hcs _ ih18 x3 μ H locs ls hP hS hl hf
      refine split_sw (k := (26 : Int32)) hf (fun hk26 hf => ?_) (fun hn26 hf => ?_)
      · refine lv_tableIn (tgt := 1006) (off := 973) F.1.1 F.1.2.1 dL_law_33 (by rw [hk26]; decide) (by rw [hk26]; decide) (by rw [hk26]; rfl) (by decide) ?_
        exact tL_26 l G F hX hbl hbA hcs _ ih18 x3 μ H locs ls hP hS hl hf
      refine split_sw (k := (27 : Int32)) hf (fun hk27 hf => ?_) (fun hn27 hf => ?_)
      · refine lv_tableIn (tgt := 1029) (off := 996) F.1.1 F.1.2.1 dL_law_33 (by rw [hk27]; decide) (by rw [hk27]; decide) (by rw [hk27]; rfl) (by decide) ?_
        exact tL_27 l G F hX hbl hbA hcs _ ih18 x3 μ H locs ls hP hS hl hf
      refine split_sw (k := (28 : Int32)) hf (fun hk28 hf => ?_) (fun hn28 hf => ?_)
      · refine lv_tableIn (tgt := 1052) (off := 1019) F.1.1 F.1.2.1 dL_law_33 (by rw [hk28]; decide) (by rw [hk28]; decide) (by rw [hk28]; rfl) (by decide) ?_
        exact tL_28 l G F hX hbl hbA hcs _ ih18 x3 μ H locs ls hP hS hl hf
      refine split_sw (k := (29 : Int32)) hf (fun hk29 hf => ?_) (fun hn29 hf => ?_)
      · refine lv_tableIn (tgt := 1085) (off := 1052) F.1.1 F.1.2.1 dL_law_33 (by rw [hk29]; decide) (by rw [hk29]; decide) (by rw [hk29]; rfl) (by decide) ?_
        exact tL_29 l G F hX hbl hbA hcs _ ih18 x3 μ H locs ls hP hS hl hf
      refine split_sw (k := (30 : Int32)) hf (fun hk30 hf => ?_) (fun hn30 hf => ?_)
      · refine lv_tableIn (tgt := 1098) (off := 1065) F.1.1 F.1.2.1 dL_law_33 (by rw [hk30]; decide) (by rw [hk30]; decide) (by rw [hk30]; rfl) (by decide) ?_
        exact tL_30 l G F hX hbl hbA hcs _ ih18 x3 μ H locs ls hP hS hl hf
      refine split_sw (k := (31 : Int32)) hf (fun hk31 hf => ?_) (fun hn31 hf => ?_)
      · refine lv_tableIn (tgt := 1111) (off := 1078) F.1.1 F.1.2.1 dL_law_33 (by rw [hk31]; decide) (by rw [hk31]; decide) (by rw [hk31]; rfl) (by decide) ?_
        exact tL_31 l G F hX hbl hbA hcs _ ih18 x3 μ H locs ls hP hS hl hf
      refine lv_tableOut (tgt := 1134) F.1.1 F.1.2.1 dL_law_33 (by have q0 := lv_neT hn0 (a := 0) (by decide); have q1 := lv_neT hn1 (a := 1) (by decide); have q2 := lv_neT hn2 (a := 2) (by decide); have q3 := lv_neT hn3 (a := 3) (by decide); have q4 := lv_neT hn4 (a := 4) (by decide); have q5 := lv_neT hn5 (a := 5) (by decide); have q6 := lv_neT hn6 (a := 6) (by decide); have q7 := lv_neT hn7 (a := 7) (by decide); have q8 := lv_neT hn8 (a := 8) (by decide); have q9 := lv_neT hn9 (a := 9) (by decide); have q10 := lv_neT hn10 (a := 10) (by decide); have q11 := lv_neT hn11 (a := 11) (by decide); have q12 := lv_neT hn12 (a := 12) (by decide); have q13 := lv_neT hn13 (a := 13) (by decide); have q14 := lv_neT hn14 (a := 14) (by decide); have q15 := lv_neT hn15 (a := 15) (by decide); have q16 := lv_neT hn16 (a := 16) (by decide); have q17 := lv_neT hn17 (a := 17) (by decide); have q18 := lv_neT hn18 (a := 18) (by decide); have q19 := lv_neT hn19 (a := 19) (by decide); have q20 := lv_neT hn20 (a := 20) (by decide); have q21 := lv_neT hn21 (a := 21) (by decide); have q22 := lv_neT hn22 (a := 22) (by decide); have q23 := lv_neT hn23 (a := 23) (by decide); have q24 := lv_neT hn24 (a := 24) (by decide); have q25 := lv_neT hn25 (a := 25) (by decide); have q26 := lv_neT hn26 (a := 26) (by decide); have q27 := lv_neT hn27 (a := 27) (by decide); have q28 := lv_neT hn28 (a := 28) (by decide); have q29 := lv_neT hn29 (a := 29) (by decide); have q30 := lv_neT hn30 (a := 30) (by decide); have q31 := lv_neT hn31 (a := 31) (by decide); omega) (by decide) ?_
      refine top_n hf (fun y_225 ey_225 hf => ?_)
      refine lv_iinc (v := y_225) (lv' := [(3, .int y_225), (0, .ref b), (1, .ref (ga G 0)), (2, .ref (ga G 31))]) F.1.1 F.1.2.1 dL_law_1134 hl (k := 3) rfl ey_225 (by decide) rfl (fun ls hl => ?_)
      refine lv_goto (tgt := 18) F.1.1 F.1.2.1 dL_law_1137 (by decide) ?_
      exact ih18 y_225 μ H locs ls hP hS (lv_sub hl [1, 2, 3, 0] rfl) hf
end LAW
