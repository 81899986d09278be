/-! THE START -/
theorem ca_int {D : va_G} {cl : List vw_C} {tys tys' : List (ClassId × FieldType)} {U : State} {i j : Nat} {a b : ClassId} (h : va_K D cl tys U) (h' : va_K D cl tys' U) (hi : tys[i]? = some (a, .int)) (hj : tys'[j]? = some (b, .int)) : b = a := by
  have h1 : U.vm.findClass ("[" ++ FieldType.int.toString) = some a := (h.2 i _ hi).2
  have h2 : U.vm.findClass ("[" ++ FieldType.int.toString) = some b := (h'.2 j _ hj).2
  exact Option.some.inj (h2.symm.trans h1)
theorem ca_obj {D : va_G} {cl : List vw_C} {tys tys' : List (ClassId × FieldType)} {U : State} {i j : Nat} {a b : ClassId} {C : String} (h : va_K D cl tys U) (h' : va_K D cl tys' U) (hi : tys[i]? = some (a, .object C)) (hj : tys'[j]? = some (b, .object C)) : b = a := by
  obtain ⟨kA, comp, -, -, -, h1⟩ := (h.2 i _ hi).2
  obtain ⟨kB, comp', -, -, -, h2⟩ := (h'.2 j _ hj).2
  exact Option.some.inj (h2.symm.trans h1)
set_option maxHeartbeats 4000000 in
set_option maxRecDepth 100000 in
theorem whole_start {p : Program} {e : Env} {s : State} {m : MethodId} {below : List Frame} {meth : Method} {c : Code} (l : Launch) {b L : Nat} {xs : Nat → Int32} (hL : L ≤ 384) (C0 : lw_At p s m meth c b L xs) : W p l e room_1 s m #[Value.ref b] below meth c s.heap [] 0 0 (lw_Z below #[Value.ref b] s) (entryFrame m ([Value.ref b] : List Value).toArray 4) := by
  obtain ⟨hx, hb, hr, hml, hown, hts, hX, hbl, hlocks, hgv⟩ := id C0
  have hA : ∀ q : Nat, s.heap.size ≤ q → (fun q : Nat => s.heap.size ≤ q) q := fun _ h => h
  have hbA : ¬ (fun q : Nat => s.heap.size ≤ q) b := Nat.not_le.mpr hbl
  have htw : ∀ w ∈ wsL_law, w.before #[Value.ref b] s = true := fun w h => hts w (wsL_law_in w h)
  have S : CallFix p m c cL_law 4 s #[Value.ref b] wsL_law RL := ⟨hx, hb, hml, hown, htw⟩
  obtain ⟨k0, i0, hKn0⟩ := u_known (C := RX0) (T := TX0) (N := 3) (n := 3) hts inX0 (hts (.instantiable RX0 3) (by decide +kernel))
  obtain ⟨k1, i1, hKn1⟩ := u_known (C := RX1) (T := TX1) (N := 2) (n := 2) hts inX1 (hts (.instantiable RX1 2) (by decide +kernel))
  obtain ⟨k2, i2, hKn2⟩ := u_known (C := RX2) (T := TX2) (N := 3) (n := 3) hts inX2 (hts (.instantiable RX2 3) (by decide +kernel))
  obtain ⟨k3, i3, hKn3⟩ := u_known (C := RX3) (T := TX3) (N := 4) (n := 4) hts inX3 (hts (.instantiable RX3 4) (by decide +kernel))
  obtain ⟨k4, i4, hKn4⟩ := u_known (C := RX4) (T := TX4) (N := 4) (n := 4) hts inX4 (hts (.instantiable RX4 4) (by decide +kernel))
  obtain ⟨k5, i5, hKn5⟩ := u_known (C := RX5) (T := TX5) (N := 7) (n := 7) hts inX5 (hts (.instantiable RX5 7) (by decide +kernel))
  obtain ⟨k6, i6, hKn6⟩ := u_known (C := RX6) (T := TX6) (N := 26) (n := 26) hts inX6 (hts (.instantiable RX6 26) (by decide +kernel))
  obtain ⟨dC, dI, hKc⟩ : ∃ (dC : Nat → ClassId) (dI : Nat → Nat → Nat), ∀ (k : Nat) (q : vw_C), vwCl[k]? = some q → u_Kn s q.1 q.2.1 q.2.2 (dC k) (dI k) := by
    refine ⟨fun k => if k = 0 then k0 else if k = 1 then k1 else if k = 2 then k2 else if k = 3 then k3 else if k = 4 then k4 else if k = 5 then k5 else k6, fun k => if k = 0 then i0 else if k = 1 then i1 else if k = 2 then i2 else if k = 3 then i3 else if k = 4 then i4 else if k = 5 then i5 else i6, ?_⟩
    intro k q hq
    match k, hq with
    | 0, hq => cases hq; exact hKn0
    | 1, hq => cases hq; exact hKn1
    | 2, hq => cases hq; exact hKn2
    | 3, hq => cases hq; exact hKn3
    | 4, hq => cases hq; exact hKn4
    | 5, hq => cases hq; exact hKn5
    | 6, hq => cases hq; exact hKn6
    | k + 7, hq => simp [vwCl] at hq
  have hS : va_S (fun q : Nat => s.heap.size ≤ q) s.heap s.heap [] := va_S.rf
  have hK : va_K (dC, dI) vwCl [] s := ⟨hKc, fun k q h => by simp at h⟩
  have hP : va_P (dC, dI) vwCl [] s.heap := fun k q h => by simp at h
  have hD : va_D (fun q : Nat => s.heap.size ≤ q) [] := ⟨fun i j p q h => by simp at h, fun k q h => by simp at h⟩
  have hN : NW s := ⟨va_Nw.of rfl (hts (.methodLinkNest RX4 17 yX0_init RX5) (by decide +kernel)), va_Nw.of rfl (hts (.methodLinkNest RX5 23 yX2_init RX5) (by decide +kernel)), va_Nw.of rfl (hts (.methodLinkNest RX5 30 yX1_init RX5) (by decide +kernel)), va_Nw.of rfl (hts (.methodLinkNest RX5 41 yX3_init RX5) (by decide +kernel)), va_AO.of (hts (.arrayOver (.object RX0)) (by decide +kernel)), va_AO.of (hts (.arrayOver (.object RX3)) (by decide +kernel))⟩
  have hN2 : va_Nw (.methodLinkNest RX4 98 yX5_kindOf RX5) s := va_Nw.of rfl (hts (.methodLinkNest RX4 98 yX5_kindOf RX5) (by decide +kernel))
  have hl := lv_entry ([.ref b]) (n := 4) (Nat.le_of_ble_eq_true rfl)
  rw [lg_entry_eq]
  generalize (lg_sl ([.ref b]) ++ List.replicate (4 - (lg_sl ([.ref b])).length) Slot.unset).toArray = ls at hl ⊢
  have hl : lv_has ls 4 [(0, .ref b)] := hl
  refine va_new (D := (dC, dI)) (ci := 5) (fs := [.null, .null, .null, .null, .null, .int 0, .int 0]) (C := RX5) (T := TX5) (N := 7) S.1 S.2.1 htw inlX5 tyX5 tyX5_ok S.2.2.2.1 (hts (.classLink RL 7 RX5) (by decide +kernel)) (hts (.instantiable RX5 7) (by decide +kernel)) (hts (.initialized RX5) (by decide +kernel)) hK hP hD hS hA rfl (fun j hj => by rcases (show j = 0 ∨ j = 1 ∨ j = 2 ∨ j = 3 ∨ j = 4 ∨ j = 5 ∨ j = 6 by omega) with rfl | rfl | rfl | rfl | rfl | rfl | rfl <;> rfl) (Nat.le_of_ble_eq_true rfl) (Nat.le_of_ble_eq_true rfl) dL_law_0 (fun q0 H hP hD hS => ?_)
  refine W.widen (k := 1) (n := 7) (by omega) (by omega) ?_
  refine lv_dup S.1 S.2.1 dL_law_3 rfl ?_
  refine new_go (va_runI (As := []) (rest := [.ref q0]) S (nX5_init l (dC, dI) (fun q : Nat => s.heap.size ≤ q) [] q0) (cwI 0 htw gL_law_X5_init rfl rfl rfl (hts (.initialized RX5) (by decide +kernel)) (hts (.methodLink RL 9 yX5_init) (by decide +kernel)) (hts (.instanceMethod yX5_init) (by decide +kernel)) rfl hdnX5_init ⟨Nat.le_of_ble_eq_true rfl, Nat.le_of_ble_eq_true rfl⟩) ⟨Pn.blind, fun U hU hW => ⟨rfl, Pn.now hK hP hD hS hA hN U hU hW⟩⟩ rfl rfl hl.1 rfl (lv_room (Nat.le_of_ble_eq_true rfl)) dL_law_4 ⟨Nat.le_of_ble_eq_true rfl, Nat.le_of_ble_eq_true rfl⟩) hS (fun V t H locs hvm hR hP hD hS => ?_)
  obtain ⟨a1, a2, a3, a4, a5, a6, a7, a8, a11, a12, a13, a14, a15, a16, a17, a18, a21, a22, a23, a27, a28, a31, a34, a35, a38, a39, a42, a43, a46, a47, c9, c19, c24, c25, c29, c32, c36, c40, c44, c48, rfl, hKt⟩ := hR
  have hk5 := va_K.moved hvm hKt
  have qc25 : c24 = c25 := (ca_int hk5 hk5 (i := 2) (j := 3) rfl rfl).symm
  have qc29 : c24 = c29 := (ca_int hk5 hk5 (i := 2) (j := 4) rfl rfl).symm
  have qc36 : c24 = c36 := (ca_int hk5 hk5 (i := 2) (j := 6) rfl rfl).symm
  have qc40 : c24 = c40 := (ca_int hk5 hk5 (i := 2) (j := 7) rfl rfl).symm
  have qc44 : c24 = c44 := (ca_int hk5 hk5 (i := 2) (j := 8) rfl rfl).symm
  have qc48 : c24 = c48 := (ca_int hk5 hk5 (i := 2) (j := 9) rfl rfl).symm
  have qc19 : c9 = c19 := (ca_obj hk5 hk5 (i := 0) (j := 1) rfl rfl).symm
  refine lv_astore_n (lv' := [(1, .ref q0), (0, .ref b)]) S.1 S.2.1 dL_law_7 rfl hl (by decide) rfl (fun ls hl => ?_)
  refine W.widen (k := 31) (n := 350) (by omega) (by omega) ?_
  refine va_new (D := (dC, dI)) (ci := 6) (fs := [.int 0, .int 0, .null, .null, .null, .int 0, .int 0, .int 0, .null, .null, .null, .int 0, .int 0, .int 0, .int 0, .null, .null, .null, .int 0, .int 0, .int 0, .int 0, .int 0, .null, .null, .null]) (C := RX6) (T := TX6) (N := 26) S.1 S.2.1 htw inlX6 tyX6 tyX6_ok S.2.2.2.1 (hts (.classLink RL 10 RX6) (by decide +kernel)) (hts (.instantiable RX6 26) (by decide +kernel)) (hts (.initialized RX6) (by decide +kernel)) hK hP hD hS hA rfl (fun j hj => by rcases (show j = 0 ∨ j = 1 ∨ j = 2 ∨ j = 3 ∨ j = 4 ∨ j = 5 ∨ j = 6 ∨ j = 7 ∨ j = 8 ∨ j = 9 ∨ j = 10 ∨ j = 11 ∨ j = 12 ∨ j = 13 ∨ j = 14 ∨ j = 15 ∨ j = 16 ∨ j = 17 ∨ j = 18 ∨ j = 19 ∨ j = 20 ∨ j = 21 ∨ j = 22 ∨ j = 23 ∨ j = 24 ∨ j = 25 by omega) with rfl | rfl | rfl | rfl | rfl | rfl | rfl | rfl | rfl | rfl | rfl | rfl | rfl | rfl | rfl | rfl | rfl | rfl | rfl | rfl | rfl | rfl | rfl | rfl | rfl | rfl <;> rfl) (Nat.le_of_ble_eq_true rfl) (Nat.le_of_ble_eq_true rfl) dL_law_8 (fun r H hP hD hS => ?_)
  refine W.widen (k := 32) (n := 376) (by omega) (by omega) ?_
  refine lv_dup S.1 S.2.1 dL_law_11 rfl ?_
  refine new_go (va_runI (As := []) (rest := [.ref r]) S (nX6_init l (dC, dI) (fun q : Nat => s.heap.size ≤ q) _ r) (cwI 0 htw gL_law_X6_init rfl rfl rfl (hts (.initialized RX6) (by decide +kernel)) (hts (.methodLink RL 12 yX6_init) (by decide +kernel)) (hts (.instanceMethod yX6_init) (by decide +kernel)) rfl hdnX6_init ⟨Nat.le_of_ble_eq_true rfl, Nat.le_of_ble_eq_true rfl⟩) ⟨Pn.blind, fun U hU hW => ⟨rfl, Pn.now hK hP hD hS hA hN U hU hW⟩⟩ rfl rfl hl.1 rfl (lv_room (Nat.le_of_ble_eq_true rfl)) dL_law_12 ⟨Nat.le_of_ble_eq_true rfl, Nat.le_of_ble_eq_true rfl⟩) hS (fun V t H locs hvm hR hP hD hS => ?_)
  obtain ⟨b1, b4, b7, b10, b13, b16, b19, b22, b25, b28, b31, b34, d2, d5, d8, d11, d14, d17, d20, d23, d26, d29, d32, d35, rfl, hKt⟩ := hR
  have hk6 := va_K.moved hvm hKt
  have qd2 : c24 = d2 := (ca_int hk5 hk6 (i := 2) (j := 0) rfl rfl).symm
  have qd5 : c24 = d5 := (ca_int hk5 hk6 (i := 2) (j := 1) rfl rfl).symm
  have qd8 : c24 = d8 := (ca_int hk5 hk6 (i := 2) (j := 2) rfl rfl).symm
  have qd11 : c24 = d11 := (ca_int hk5 hk6 (i := 2) (j := 3) rfl rfl).symm
  have qd14 : c24 = d14 := (ca_int hk5 hk6 (i := 2) (j := 4) rfl rfl).symm
  have qd17 : c24 = d17 := (ca_int hk5 hk6 (i := 2) (j := 5) rfl rfl).symm
  have qd20 : c24 = d20 := (ca_int hk5 hk6 (i := 2) (j := 6) rfl rfl).symm
  have qd23 : c24 = d23 := (ca_int hk5 hk6 (i := 2) (j := 7) rfl rfl).symm
  have qd26 : c24 = d26 := (ca_int hk5 hk6 (i := 2) (j := 8) rfl rfl).symm
  have qd29 : c24 = d29 := (ca_int hk5 hk6 (i := 2) (j := 9) rfl rfl).symm
  have qd32 : c24 = d32 := (ca_int hk5 hk6 (i := 2) (j := 10) rfl rfl).symm
  have qd35 : c24 = d35 := (ca_int hk5 hk6 (i := 2) (j := 11) rfl rfl).symm
  subst qc25 qc29 qc36 qc40 qc44 qc48 qc19 qd2 qd5 qd8 qd11 qd14 qd17 qd20 qd23 qd26 qd29 qd32 qd35
  refine lv_astore_n (lv' := [(2, .ref r), (1, .ref q0), (0, .ref b)]) S.1 S.2.1 dL_law_15 rfl hl (by decide) rfl (fun ls hl => ?_)
  refine lv_iconst (v := 0) S.1 S.2.1 dL_law_16 (by decide) ?_
  refine lv_istore_n (lv' := [(3, .int 0), (2, .ref r), (1, .ref q0), (0, .ref b)]) S.1 S.2.1 dL_law_17 rfl hl (by decide) rfl (fun ls hl => ?_)
  refine W.widen (k := 44) (n := 708) (by omega) (by omega) ?_
  have hP : va_P (dC, dI) vwCl (W44 c24 c9 c32 q0 a1 a2 a3 a4 a5 a6 a7 a8 a11 a12 a13 a14 a15 a16 a17 a18 a21 a22 a23 a27 a28 a31 a34 a35 a38 a39 a42 a43 a46 a47 r b1 b4 b7 b10 b13 b16 b19 b22 b25 b28 b31 b34) H := hP
  have hD : va_D (fun q : Nat => s.heap.size ≤ q) (W44 c24 c9 c32 q0 a1 a2 a3 a4 a5 a6 a7 a8 a11 a12 a13 a14 a15 a16 a17 a18 a21 a22 a23 a27 a28 a31 a34 a35 a38 a39 a42 a43 a46 a47 r b1 b4 b7 b10 b13 b16 b19 b22 b25 b28 b31 b34) := hD
  have hG : GD (Gs (dC, dI) (fun q : Nat => s.heap.size ≤ q) c24 c9 c32 [q0, a1, a2, a3, a4, a5, a6, a7, a8, a11, a12, a13, a14, a15, a16, a17, a18, a21, a22, a23, a27, a28, a31, a34, a38, a42, a46, a35, a39, a43, a47, r, b1, b4, b7, b10, b13, b16, b19, b22, b25, b28, b31, b34]) := st_gd hD
  have hH : Hh (Gs (dC, dI) (fun q : Nat => s.heap.size ≤ q) c24 c9 c32 [q0, a1, a2, a3, a4, a5, a6, a7, a8, a11, a12, a13, a14, a15, a16, a17, a18, a21, a22, a23, a27, a28, a31, a34, a38, a42, a46, a35, a39, a43, a47, r, b1, b4, b7, b10, b13, b16, b19, b22, b25, b28, b31, b34]) mu0 H := st_hh hP
  have hKK : KK (Gs (dC, dI) (fun q : Nat => s.heap.size ≤ q) c24 c9 c32 [q0, a1, a2, a3, a4, a5, a6, a7, a8, a11, a12, a13, a14, a15, a16, a17, a18, a21, a22, a23, a27, a28, a31, a34, a38, a42, a46, a35, a39, a43, a47, r, b1, b4, b7, b10, b13, b16, b19, b22, b25, b28, b31, b34]) s := ⟨hk5.sub [2, 0, 5] rfl, hN2⟩
  obtain ⟨μ', hf⟩ := law_pure (xs := xs) hL 100 0 mu0 Rx0 (by omega) (by omega)
  exact lL_law_L18 l (Gs (dC, dI) (fun q : Nat => s.heap.size ≤ q) c24 c9 c32 [q0, a1, a2, a3, a4, a5, a6, a7, a8, a11, a12, a13, a14, a15, a16, a17, a18, a21, a22, a23, a27, a28, a31, a34, a38, a42, a46, a35, a39, a43, a47, r, b1, b4, b7, b10, b13, b16, b19, b22, b25, b28, b31, b34]) (C := 44) (S := 708) ⟨S, hr, hlocks, hKK, hG⟩ hX hbl hbA (fun _ h => h) ⟨Nat.le_of_ble_eq_true rfl, Nat.le_of_ble_eq_true rfl⟩ 100 0 mu0 H locs ls hH hS (lv_sub hl [3, 2, 1, 0] rfl) hf
