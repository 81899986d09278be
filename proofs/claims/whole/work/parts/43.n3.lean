/-! CONSTRUCTORS: a world W0 that stands, and the new cells behind it -/
theorem app_get {W0 L : va_W} {j : Nat} {x : Nat × va_E} (h : L[j]? = some x) : (W0 ++ L)[W0.length + j]? = some x := by
  rw [List.getElem?_append_right (Nat.le_add_right _ _), Nat.add_sub_cancel_left]
  exact h
theorem app_set {W0 L : va_W} {j : Nat} {x : Nat × va_E} : (W0 ++ L).set (W0.length + j) x = W0 ++ L.set j x := by
  rw [List.set_append_right _ _ (Nat.le_add_right _ _), Nat.add_sub_cancel_left]
def NW (U : State) : Prop := va_Nw (.methodLinkNest RX4 17 yX0_init RX5) U ∧ va_Nw (.methodLinkNest RX5 23 yX2_init RX5) U ∧ va_Nw (.methodLinkNest RX5 30 yX1_init RX5) U ∧ va_Nw (.methodLinkNest RX5 41 yX3_init RX5) U ∧ va_AO RX0 U ∧ va_AO RX3 U
theorem NW.warm {s U : State} (h : NW s) (hW : s.WarmedH U.vm) : NW U := ⟨va_Nw.warmM hW h.1, va_Nw.warmM hW h.2.1, va_Nw.warmM hW h.2.2.1, va_Nw.warmM hW h.2.2.2.1, va_AO.moved hW.alike h.2.2.2.2.1, va_AO.moved hW.alike h.2.2.2.2.2⟩
theorem NW.same {u U : State} (h : u.vm = U.vm) (hu : NW u) : NW U := ⟨va_Nw.same (by first | rfl | decide) h hu.1, va_Nw.same (by first | rfl | decide) h hu.2.1, va_Nw.same (by first | rfl | decide) h hu.2.2.1, va_Nw.same (by first | rfl | decide) h hu.2.2.2.1, va_AO.moved (by rw [h]; exact Vm.Alike.refl _) hu.2.2.2.2.1, va_AO.moved (by rw [h]; exact Vm.Alike.refl _) hu.2.2.2.2.2⟩
def Pn (D : va_G) (A : Nat → Prop) (V : va_W) (U : State) : Prop := va_P D vwCl V U.heap ∧ va_D A V ∧ va_K D vwCl [] U ∧ (∀ q, U.heap.size ≤ q → A q) ∧ NW U
def Qn (D : va_G) (A : Nat → Prop) (Rel : va_W → State → Prop) : Array Value → State → Outcome → State → Prop := fun _ st oc t => (oc = .returned none ∧ ∃ V, Rel V t ∧ va_P D vwCl V t.heap ∧ va_D A V) ∧ va_F A st t
theorem Pn.blind {D : va_G} {A : Nat → Prop} {V : va_W} {av : List Value} : FrameBlind (va_Pc av (Pn D A V)) := fun a U g mk q => by
  obtain ⟨q0, q1, q2, q3, q4, q5⟩ := q
  exact ⟨q0, q1, q2, va_K.moved (u := U) (U := U.calling g mk a) (Vm.Alike.refl U.vm) q3, q4, NW.same (rfl : U.vm = (U.calling g mk a).vm) q5⟩
section NB
variable {p : Program} {l : Launch} {e : Env} {R : Room} {s : State} {m : MethodId} {args : Array Value} {below : List Frame} {meth : Method} {c : Code} {H : Heap} {locs : List Loc} {cells slots : Nat} {Q : State → Prop}
variable {pc mc ms : Nat} {ls : Array Slot} {rest st0 : List Value} {D : va_G} {A : Nat → Prop} {W0 : va_W} {Rel : va_W → State → Prop}
theorem new_go {a : Array Value} (hr : va_Run p l e R s m args below meth c H locs cells slots mc ms (F0 m pc ls st0) rest (Qn D A Rel a) A) (hS : va_S A s.heap H locs)
    (kk : ∀ (V : va_W) (t : State) (H : Heap) (locs : List Loc), t.vm.Alike s.vm → Rel V t → va_P D vwCl V H → va_D A V → va_S A s.heap H locs → W p l e R s m args below meth c H locs (cells + mc) (slots + ms) Q (F0 m (pc + 3) ls rest)) : W p l e R s m args below meth c H locs cells slots Q (F0 m pc ls st0) := by
  intro T hT X
  obtain ⟨v, st₀, t, T', L, h0, X', hL, e1, e2, ⟨⟨hv, V, hR, hp, hd⟩, hz, hk⟩, st⟩ := hr T hT X
  cases hv
  rw [h0] at hz hk
  have hvm : s.vm.Alike t.vm := by rw [← e2]; exact X'.warmed.alike
  obtain ⟨t2, a1, b1⟩ := kk V t T'.heap (locs ++ L) hvm.symm hR (by rw [e1]; exact hp) hd
    ⟨Nat.le_trans hS.1 (by rw [e1]; exact hz), fun q h1 h2 => by rw [e1, hk q (Nat.lt_of_lt_of_le h1 hS.1) h2]; exact hS.2.1 q h1 h2, fun q hq => by
      rcases List.mem_append.mp hq with h | h
      · exact hS.2.2 q h
      · exact hL q h⟩ T' rfl X'
  exact ⟨t2, st t2 a1, b1⟩
theorem Pn.now {V : va_W} (hK : va_K D vwCl [] s) (hP : va_P D vwCl V H) (hD : va_D A V) (hS : va_S A s.heap H locs) (hA : ∀ q, s.heap.size ≤ q → A q) (hN : NW s) : ∀ U : State, U.heap = H → s.WarmedH U.vm → Pn D A V U := fun U hU hW => ⟨by rw [hU]; exact hP, hD, va_K.moved hW.alike hK, fun q hq => hA q (Nat.le_trans hS.1 (by rw [hU] at hq; exact hq)), hN.warm hW⟩
end NB
theorem Cn.of {l : Launch} {y : MethodName} {ws ws' : List Cond} {rm : Room} {D : va_G} {A : Nat → Prop} {V : va_W} {Rel : va_W → State → Prop} {mc ms q : Nat} {cc : ByteArray} {maxL : Nat} {own : String}
    (hy : plainName y.cls = true) (hw : ws = Cond.code y cc maxL none :: ws') (ho : y.cls = own) (hi : y.name = "<init>") (hlen : 1 ≤ maxL)
    (body : ∀ (p : Program) (e : Env) (s : State) (m : MethodId) (args : Array Value) (below : List Frame) (meth : Method) (c : Code) (ls : Array Slot) (H : Heap) (locs : List Loc), CallFix p m c cc maxL s args ws own → meth.sig.returnType = none → meth.locks = false → meth.name = "<init>" → NW s → (∀ q, s.heap.size ≤ q → A q) → lv_has ls maxL [(0, .ref q)] → va_K D vwCl [] s → va_P D vwCl V H → va_D A V → va_S A s.heap H locs →
      W p l e rm s m args below meth c H locs 0 0 (MQ below (Qn D A Rel) args s mc ms A) (F0 m 0 ls [])) : Met l y ws rm (va_Pc [.ref q] (Pn D A V)) (Qn D A Rel) mc ms A := by
  refine Met.ofW (cc := cc) (maxL := maxL) (ret := none) hy hw ?_
  intro p e s m args below meth c s₁ B hml hv
  obtain ⟨rfl, hP, hD, hK, hA, hN⟩ := hv
  have hts := atoms_spec (ws := ws) B.pre
  have hown : s.vm.findClass y.cls = some m.cls := findClass_of_methodNamed B.named
  rw [ho] at hown
  have hin : meth.name = "<init>" := by rw [(name_of_methodNamed B.named B.method).1]; exact hi
  have hl := lv_entry [.ref q] (n := maxL) hlen
  rw [lg_entry_eq]
  exact body p e s m _ below meth c _ s.heap [] ⟨B.exec, B.bytes, hml, hown, hts⟩ B.returns B.notSynchronized hin hN hA hl hK hP hD va_S.rf
theorem kX0_init_0 : Cond.methodLink RX0 3 objectInit ∈ wsX0_init := List.mem_cons_of_mem _ (List.mem_of_getElem? (i := 0) rfl)
theorem kX0_init_1 : Cond.instanceMethod objectInit ∈ wsX0_init := List.mem_cons_of_mem _ (List.mem_of_getElem? (i := 1) rfl)
theorem kX0_init_2 : Cond.code objectInit ⟨#[0xb1]⟩ 1 none ∈ wsX0_init := List.mem_cons_of_mem _ (List.mem_of_getElem? (i := 2) rfl)
theorem hdnX0_init : yX0_init.cls ≠ "java/lang/invoke/MethodHandle" ∧ yX0_init.cls ≠ "java/lang/invoke/VarHandle" ∧ (parseMethodDescriptor yX0_init.desc).map (fun d => d.parameters.length) = some 0 := by decide +kernel
abbrev rmnX0_init : Room := { frames := 1, cells := 0, slots := 0, locals := 12 }
set_option maxHeartbeats 4000000 in
set_option maxRecDepth 100000 in
theorem nX0_init (l : Launch) (D : va_G) (A : Nat → Prop) (W0 : va_W) (q : Nat) : Met l yX0_init wsX0_init rmnX0_init (va_Pc [.ref q] (Pn D A (W0 ++ [(q, .inr (0, [.int 0, .int 0, .int 0]))]))) (Qn D A (fun W _ => W = W0 ++ [(q, .inr (0, [.int 0, .int 0, .int 0]))])) 0 0 A := by
  refine Cn.of (cc := cX0_init) (maxL := 1) (own := RX0) (by decide) rfl rfl rfl (Nat.le_of_ble_eq_true rfl) ?_
  intro p e s m args below meth c ls H locs S hr hlk hin hN hA hl hK hP hD hS
  refine lv_aload_n S.1 S.2.1 dX0_init_0 rfl (lv_at hl 0 rfl) ?_
  refine W.objInit S.1 S.2.1 S.2.2.2.1 (S.2.2.2.2 _ kX0_init_0) (S.2.2.2.2 _ kX0_init_1) (S.2.2.2.2 _ kX0_init_2) rfl (by rw [S.2.2.1]; exact hl.1) rfl dX0_init_1 (Nat.le_of_ble_eq_true rfl) (Nat.le_of_ble_eq_true rfl) ?_
  refine W.eq (g2 := F0 m 4 ls []) rfl ?_
  refine W.widen (k := 0) (n := 0) (Nat.le_of_ble_eq_true rfl) (Nat.le_of_ble_eq_true rfl) ?_
  exact W.vret S.1 S.2.1 hr (fun t ht hW => ⟨⟨rfl, _, rfl, by rw [ht]; exact hP, hD⟩, hS.F ht⟩) hS.2.2 dX0_init_4 hlk
theorem kX1_init_0 : Cond.methodLink RX1 3 objectInit ∈ wsX1_init := List.mem_cons_of_mem _ (List.mem_append_left _ (List.mem_of_getElem? (i := 0) rfl))
theorem kX1_init_1 : Cond.instanceMethod objectInit ∈ wsX1_init := List.mem_cons_of_mem _ (List.mem_append_left _ (List.mem_of_getElem? (i := 1) rfl))
theorem kX1_init_2 : Cond.code objectInit ⟨#[0xb1]⟩ 1 none ∈ wsX1_init := List.mem_cons_of_mem _ (List.mem_append_left _ (List.mem_of_getElem? (i := 2) rfl))
theorem kX1_init_3 : Cond.arrayClass .int ∈ wsX1_init := List.mem_cons_of_mem _ (List.mem_append_left _ (List.mem_of_getElem? (i := 3) rfl))
theorem kX1_init_4 : Cond.fieldLink RX1 9 "PaperLayers$Order" "row" "[I" ∈ wsX1_init := List.mem_cons_of_mem _ (List.mem_append_left _ (List.mem_of_getElem? (i := 4) rfl))
theorem inX1_init_1 : ∀ w ∈ wsX10, w ∈ wsX1_init := fun _ h => List.mem_cons_of_mem _ (List.mem_append_right _ (h))
theorem hdnX1_init : yX1_init.cls ≠ "java/lang/invoke/MethodHandle" ∧ yX1_init.cls ≠ "java/lang/invoke/VarHandle" ∧ (parseMethodDescriptor yX1_init.desc).map (fun d => d.parameters.length) = some 0 := by decide +kernel
abbrev rmnX1_init : Room := { frames := 1, cells := 1, slots := 6, locals := 12 }
set_option maxHeartbeats 4000000 in
set_option maxRecDepth 100000 in
theorem nX1_init (l : Launch) (D : va_G) (A : Nat → Prop) (W0 : va_W) (q : Nat) : Met l yX1_init wsX1_init rmnX1_init (va_Pc [.ref q] (Pn D A (W0 ++ [(q, .inr (1, [.null, .int 0]))]))) (Qn D A (fun W t => ∃ (a1 : Nat) (c2 : ClassId), W = W0 ++ [(q, .inr (1, [.ref a1, .int 0])), (a1, .inl (c2, (6, .inl (fun _ => 0))))] ∧ va_K D vwCl [(c2, .int)] t)) 1 6 A := by
  refine Cn.of (cc := cX1_init) (maxL := 1) (own := RX1) (by decide) rfl rfl rfl (Nat.le_of_ble_eq_true rfl) ?_
  intro p e s m args below meth c ls H locs S hr hlk hin hN hA hl hK hP hD hS
  refine lv_aload_n S.1 S.2.1 dX1_init_0 rfl (lv_at hl 0 rfl) ?_
  refine W.objInit S.1 S.2.1 S.2.2.2.1 (S.2.2.2.2 _ kX1_init_0) (S.2.2.2.2 _ kX1_init_1) (S.2.2.2.2 _ kX1_init_2) rfl (by rw [S.2.2.1]; exact hl.1) rfl dX1_init_1 (Nat.le_of_ble_eq_true rfl) (Nat.le_of_ble_eq_true rfl) ?_
  refine W.eq (g2 := F0 m 4 ls []) rfl ?_
  refine lv_aload_n S.1 S.2.1 dX1_init_4 rfl (lv_at hl 0 rfl) ?_
  refine lv_bipush (v := (6 : Int32)) S.1 S.2.1 dX1_init_5 (by decide) ?_
  refine va_newa (atype := .int) (ty := .int) (D := D) (tys := []) (a0 := (6, .inl (fun _ => 0))) (N' := 6) S.1 S.2.1 (S.2.2.2.2 _ kX1_init_3) rfl hK hP hD hS hA (fun _ => rfl) (by decide) (by decide) (Nat.le_of_ble_eq_true rfl) (Nat.le_of_ble_eq_true rfl) (Nat.le_of_ble_eq_true rfl) dX1_init_7 (fun a1 c2 H hk3 hP hD hS => ?_)
  have hP : va_P D vwCl (W0 ++ [(q, .inr (1, [.null, .int 0])), (a1, .inl (c2, (6, .inl (fun _ => 0))))]) H := by rw [List.append_assoc] at hP; exact hP
  have hD : va_D A (W0 ++ [(q, .inr (1, [.null, .int 0])), (a1, .inl (c2, (6, .inl (fun _ => 0))))]) := by rw [List.append_assoc] at hD; exact hD
  refine va_putF (D := D) (ci := 1) (v := .ref a1) (ty := .array .int) (C := RX1) (T := TX1) (N := 2) S.1 S.2.1 S.2.2.2.2 inX1_init_1 tyX1 tyX1_ok nmX1 S.2.2.2.1 hK hP hD hS (W0.length + 0) (app_get rfl) rfl 0 (by decide) (S.2.2.2.2 _ kX1_init_4) (fun _ h => h) rfl hin rfl (by decide +kernel) rfl rfl (Nat.le_of_ble_eq_true rfl) dX1_init_9 (fun H locs hP hD hS => ?_)
  have hP : va_P D vwCl (W0 ++ [(q, .inr (1, [.ref a1, .int 0])), (a1, .inl (c2, (6, .inl (fun _ => 0))))]) H := by rw [app_set] at hP; exact hP
  have hD : va_D A (W0 ++ [(q, .inr (1, [.ref a1, .int 0])), (a1, .inl (c2, (6, .inl (fun _ => 0))))]) := by rw [app_set] at hD; exact hD
  refine W.widen (k := 1) (n := 6) (Nat.le_of_ble_eq_true rfl) (Nat.le_of_ble_eq_true rfl) ?_
  have hKf : va_K D vwCl [(c2, .int)] s := hk3
  exact W.vret S.1 S.2.1 hr (fun t ht hW => ⟨⟨rfl, _, ⟨a1, c2, rfl, va_K.moved hW.alike hKf⟩, by rw [ht]; exact hP, hD⟩, hS.F ht⟩) hS.2.2 dX1_init_12 hlk
theorem kX2_init_0 : Cond.methodLink RX2 3 objectInit ∈ wsX2_init := List.mem_cons_of_mem _ (List.mem_append_left _ (List.mem_of_getElem? (i := 0) rfl))
theorem kX2_init_1 : Cond.instanceMethod objectInit ∈ wsX2_init := List.mem_cons_of_mem _ (List.mem_append_left _ (List.mem_of_getElem? (i := 1) rfl))
theorem kX2_init_2 : Cond.code objectInit ⟨#[0xb1]⟩ 1 none ∈ wsX2_init := List.mem_cons_of_mem _ (List.mem_append_left _ (List.mem_of_getElem? (i := 2) rfl))
theorem kX2_init_3 : Cond.arrayClass .int ∈ wsX2_init := List.mem_cons_of_mem _ (List.mem_append_left _ (List.mem_of_getElem? (i := 3) rfl))
theorem kX2_init_4 : Cond.fieldLink RX2 9 "PaperLayers$Readings" "warmths" "[I" ∈ wsX2_init := List.mem_cons_of_mem _ (List.mem_append_left _ (List.mem_of_getElem? (i := 4) rfl))
theorem kX2_init_5 : Cond.fieldLink RX2 15 "PaperLayers$Readings" "counsels" "[I" ∈ wsX2_init := List.mem_cons_of_mem _ (List.mem_append_left _ (List.mem_of_getElem? (i := 5) rfl))
theorem inX2_init_2 : ∀ w ∈ wsX20, w ∈ wsX2_init := fun _ h => List.mem_cons_of_mem _ (List.mem_append_right _ (h))
theorem hdnX2_init : yX2_init.cls ≠ "java/lang/invoke/MethodHandle" ∧ yX2_init.cls ≠ "java/lang/invoke/VarHandle" ∧ (parseMethodDescriptor yX2_init.desc).map (fun d => d.parameters.length) = some 0 := by decide +kernel
abbrev rmnX2_init : Room := { frames := 1, cells := 2, slots := 16, locals := 12 }
set_option maxHeartbeats 4000000 in
set_option maxRecDepth 100000 in
theorem nX2_init (l : Launch) (D : va_G) (A : Nat → Prop) (W0 : va_W) (q : Nat) : Met l yX2_init wsX2_init rmnX2_init (va_Pc [.ref q] (Pn D A (W0 ++ [(q, .inr (2, [.null, .null, .int 0]))]))) (Qn D A (fun W t => ∃ (a1 a4 : Nat) (c2 c5 : ClassId), W = W0 ++ [(q, .inr (2, [.ref a1, .ref a4, .int 0])), (a1, .inl (c2, (8, .inl (fun _ => 0)))), (a4, .inl (c5, (8, .inl (fun _ => 0))))] ∧ va_K D vwCl [(c2, .int), (c5, .int)] t)) 2 16 A := by
  refine Cn.of (cc := cX2_init) (maxL := 1) (own := RX2) (by decide) rfl rfl rfl (Nat.le_of_ble_eq_true rfl) ?_
  intro p e s m args below meth c ls H locs S hr hlk hin hN hA hl hK hP hD hS
  refine lv_aload_n S.1 S.2.1 dX2_init_0 rfl (lv_at hl 0 rfl) ?_
  refine W.objInit S.1 S.2.1 S.2.2.2.1 (S.2.2.2.2 _ kX2_init_0) (S.2.2.2.2 _ kX2_init_1) (S.2.2.2.2 _ kX2_init_2) rfl (by rw [S.2.2.1]; exact hl.1) rfl dX2_init_1 (Nat.le_of_ble_eq_true rfl) (Nat.le_of_ble_eq_true rfl) ?_
  refine W.eq (g2 := F0 m 4 ls []) rfl ?_
  refine lv_aload_n S.1 S.2.1 dX2_init_4 rfl (lv_at hl 0 rfl) ?_
  refine lv_bipush (v := (8 : Int32)) S.1 S.2.1 dX2_init_5 (by decide) ?_
  refine va_newa (atype := .int) (ty := .int) (D := D) (tys := []) (a0 := (8, .inl (fun _ => 0))) (N' := 8) S.1 S.2.1 (S.2.2.2.2 _ kX2_init_3) rfl hK hP hD hS hA (fun _ => rfl) (by decide) (by decide) (Nat.le_of_ble_eq_true rfl) (Nat.le_of_ble_eq_true rfl) (Nat.le_of_ble_eq_true rfl) dX2_init_7 (fun a1 c2 H hk3 hP hD hS => ?_)
  have hP : va_P D vwCl (W0 ++ [(q, .inr (2, [.null, .null, .int 0])), (a1, .inl (c2, (8, .inl (fun _ => 0))))]) H := by rw [List.append_assoc] at hP; exact hP
  have hD : va_D A (W0 ++ [(q, .inr (2, [.null, .null, .int 0])), (a1, .inl (c2, (8, .inl (fun _ => 0))))]) := by rw [List.append_assoc] at hD; exact hD
  refine va_putF (D := D) (ci := 2) (v := .ref a1) (ty := .array .int) (C := RX2) (T := TX2) (N := 3) S.1 S.2.1 S.2.2.2.2 inX2_init_2 tyX2 tyX2_ok nmX2 S.2.2.2.1 hK hP hD hS (W0.length + 0) (app_get rfl) rfl 0 (by decide) (S.2.2.2.2 _ kX2_init_4) (fun _ h => h) rfl hin rfl (by decide +kernel) rfl rfl (Nat.le_of_ble_eq_true rfl) dX2_init_9 (fun H locs hP hD hS => ?_)
  have hP : va_P D vwCl (W0 ++ [(q, .inr (2, [.ref a1, .null, .int 0])), (a1, .inl (c2, (8, .inl (fun _ => 0))))]) H := by rw [app_set] at hP; exact hP
  have hD : va_D A (W0 ++ [(q, .inr (2, [.ref a1, .null, .int 0])), (a1, .inl (c2, (8, .inl (fun _ => 0))))]) := by rw [app_set] at hD; exact hD
  refine lv_aload_n S.1 S.2.1 dX2_init_12 rfl (lv_at hl 0 rfl) ?_
  refine lv_bipush (v := (8 : Int32)) S.1 S.2.1 dX2_init_13 (by decide) ?_
  refine va_newa (atype := .int) (ty := .int) (D := D) (tys := []) (a0 := (8, .inl (fun _ => 0))) (N' := 8) S.1 S.2.1 (S.2.2.2.2 _ kX2_init_3) rfl hK hP hD hS hA (fun _ => rfl) (by decide) (by decide) (Nat.le_of_ble_eq_true rfl) (Nat.le_of_ble_eq_true rfl) (Nat.le_of_ble_eq_true rfl) dX2_init_15 (fun a4 c5 H hk6 hP hD hS => ?_)
  have hP : va_P D vwCl (W0 ++ [(q, .inr (2, [.ref a1, .null, .int 0])), (a1, .inl (c2, (8, .inl (fun _ => 0)))), (a4, .inl (c5, (8, .inl (fun _ => 0))))]) H := by rw [List.append_assoc] at hP; exact hP
  have hD : va_D A (W0 ++ [(q, .inr (2, [.ref a1, .null, .int 0])), (a1, .inl (c2, (8, .inl (fun _ => 0)))), (a4, .inl (c5, (8, .inl (fun _ => 0))))]) := by rw [List.append_assoc] at hD; exact hD
  refine va_putF (D := D) (ci := 2) (v := .ref a4) (ty := .array .int) (C := RX2) (T := TX2) (N := 3) S.1 S.2.1 S.2.2.2.2 inX2_init_2 tyX2 tyX2_ok nmX2 S.2.2.2.1 hK hP hD hS (W0.length + 0) (app_get rfl) rfl 1 (by decide) (S.2.2.2.2 _ kX2_init_5) (fun _ h => h) rfl hin rfl (by decide +kernel) rfl rfl (Nat.le_of_ble_eq_true rfl) dX2_init_17 (fun H locs hP hD hS => ?_)
  have hP : va_P D vwCl (W0 ++ [(q, .inr (2, [.ref a1, .ref a4, .int 0])), (a1, .inl (c2, (8, .inl (fun _ => 0)))), (a4, .inl (c5, (8, .inl (fun _ => 0))))]) H := by rw [app_set] at hP; exact hP
  have hD : va_D A (W0 ++ [(q, .inr (2, [.ref a1, .ref a4, .int 0])), (a1, .inl (c2, (8, .inl (fun _ => 0)))), (a4, .inl (c5, (8, .inl (fun _ => 0))))]) := by rw [app_set] at hD; exact hD
  refine W.widen (k := 2) (n := 16) (Nat.le_of_ble_eq_true rfl) (Nat.le_of_ble_eq_true rfl) ?_
  have hKf : va_K D vwCl [(c2, .int), (c5, .int)] s := (hk3).app hk6
  exact W.vret S.1 S.2.1 hr (fun t ht hW => ⟨⟨rfl, _, ⟨a1, a4, c2, c5, rfl, va_K.moved hW.alike hKf⟩, by rw [ht]; exact hP, hD⟩, hS.F ht⟩) hS.2.2 dX2_init_20 hlk
theorem kX3_init_0 : Cond.methodLink RX3 3 objectInit ∈ wsX3_init := List.mem_cons_of_mem _ (List.mem_append_left _ (List.mem_of_getElem? (i := 0) rfl))
theorem kX3_init_1 : Cond.instanceMethod objectInit ∈ wsX3_init := List.mem_cons_of_mem _ (List.mem_append_left _ (List.mem_of_getElem? (i := 1) rfl))
theorem kX3_init_2 : Cond.code objectInit ⟨#[0xb1]⟩ 1 none ∈ wsX3_init := List.mem_cons_of_mem _ (List.mem_append_left _ (List.mem_of_getElem? (i := 2) rfl))
theorem kX3_init_3 : Cond.arrayClass .int ∈ wsX3_init := List.mem_cons_of_mem _ (List.mem_append_left _ (List.mem_of_getElem? (i := 3) rfl))
theorem kX3_init_4 : Cond.fieldLink RX3 9 "PaperLayers$Sheet" "cells" "[I" ∈ wsX3_init := List.mem_cons_of_mem _ (List.mem_append_left _ (List.mem_of_getElem? (i := 4) rfl))
theorem inX3_init_3 : ∀ w ∈ wsX30, w ∈ wsX3_init := fun _ h => List.mem_cons_of_mem _ (List.mem_append_right _ (h))
theorem hdnX3_init : yX3_init.cls ≠ "java/lang/invoke/MethodHandle" ∧ yX3_init.cls ≠ "java/lang/invoke/VarHandle" ∧ (parseMethodDescriptor yX3_init.desc).map (fun d => d.parameters.length) = some 0 := by decide +kernel
abbrev rmnX3_init : Room := { frames := 1, cells := 1, slots := 60, locals := 12 }
set_option maxHeartbeats 4000000 in
set_option maxRecDepth 100000 in
theorem nX3_init (l : Launch) (D : va_G) (A : Nat → Prop) (W0 : va_W) (q : Nat) : Met l yX3_init wsX3_init rmnX3_init (va_Pc [.ref q] (Pn D A (W0 ++ [(q, .inr (3, [.null, .int 0, .int 0, .int 0]))]))) (Qn D A (fun W t => ∃ (a1 : Nat) (c2 : ClassId), W = W0 ++ [(q, .inr (3, [.ref a1, .int 0, .int 0, .int 0])), (a1, .inl (c2, (60, .inl (fun _ => 0))))] ∧ va_K D vwCl [(c2, .int)] t)) 1 60 A := by
  refine Cn.of (cc := cX3_init) (maxL := 1) (own := RX3) (by decide) rfl rfl rfl (Nat.le_of_ble_eq_true rfl) ?_
  intro p e s m args below meth c ls H locs S hr hlk hin hN hA hl hK hP hD hS
  refine lv_aload_n S.1 S.2.1 dX3_init_0 rfl (lv_at hl 0 rfl) ?_
  refine W.objInit S.1 S.2.1 S.2.2.2.1 (S.2.2.2.2 _ kX3_init_0) (S.2.2.2.2 _ kX3_init_1) (S.2.2.2.2 _ kX3_init_2) rfl (by rw [S.2.2.1]; exact hl.1) rfl dX3_init_1 (Nat.le_of_ble_eq_true rfl) (Nat.le_of_ble_eq_true rfl) ?_
  refine W.eq (g2 := F0 m 4 ls []) rfl ?_
  refine lv_aload_n S.1 S.2.1 dX3_init_4 rfl (lv_at hl 0 rfl) ?_
  refine lv_bipush (v := (60 : Int32)) S.1 S.2.1 dX3_init_5 (by decide) ?_
  refine va_newa (atype := .int) (ty := .int) (D := D) (tys := []) (a0 := (60, .inl (fun _ => 0))) (N' := 60) S.1 S.2.1 (S.2.2.2.2 _ kX3_init_3) rfl hK hP hD hS hA (fun _ => rfl) (by decide) (by decide) (Nat.le_of_ble_eq_true rfl) (Nat.le_of_ble_eq_true rfl) (Nat.le_of_ble_eq_true rfl) dX3_init_7 (fun a1 c2 H hk3 hP hD hS => ?_)
  have hP : va_P D vwCl (W0 ++ [(q, .inr (3, [.null, .int 0, .int 0, .int 0])), (a1, .inl (c2, (60, .inl (fun _ => 0))))]) H := by rw [List.append_assoc] at hP; exact hP
  have hD : va_D A (W0 ++ [(q, .inr (3, [.null, .int 0, .int 0, .int 0])), (a1, .inl (c2, (60, .inl (fun _ => 0))))]) := by rw [List.append_assoc] at hD; exact hD
  refine va_putF (D := D) (ci := 3) (v := .ref a1) (ty := .array .int) (C := RX3) (T := TX3) (N := 4) S.1 S.2.1 S.2.2.2.2 inX3_init_3 tyX3 tyX3_ok nmX3 S.2.2.2.1 hK hP hD hS (W0.length + 0) (app_get rfl) rfl 0 (by decide) (S.2.2.2.2 _ kX3_init_4) (fun _ h => h) rfl hin rfl (by decide +kernel) rfl rfl (Nat.le_of_ble_eq_true rfl) dX3_init_9 (fun H locs hP hD hS => ?_)
  have hP : va_P D vwCl (W0 ++ [(q, .inr (3, [.ref a1, .int 0, .int 0, .int 0])), (a1, .inl (c2, (60, .inl (fun _ => 0))))]) H := by rw [app_set] at hP; exact hP
  have hD : va_D A (W0 ++ [(q, .inr (3, [.ref a1, .int 0, .int 0, .int 0])), (a1, .inl (c2, (60, .inl (fun _ => 0))))]) := by rw [app_set] at hD; exact hD
  refine W.widen (k := 1) (n := 60) (Nat.le_of_ble_eq_true rfl) (Nat.le_of_ble_eq_true rfl) ?_
  have hKf : va_K D vwCl [(c2, .int)] s := hk3
  exact W.vret S.1 S.2.1 hr (fun t ht hW => ⟨⟨rfl, _, ⟨a1, c2, rfl, va_K.moved hW.alike hKf⟩, by rw [ht]; exact hP, hD⟩, hS.F ht⟩) hS.2.2 dX3_init_12 hlk
