/-! PURE: sheets: new rows, cells, copies -/
theorem X3_clear_L (t : Nat) : ∀ (m fuel i : Nat) (μ : Mem), i + m = 60 → m < fuel → ∃ μ', fX3_begin_L26 t fuel (nI i) μ = some ((), μ') ∧ (∀ j, i ≤ j → j < 60 → μ' (t + 4) j = 0) ∧ ∀ c, c ≠ t + 4 → μ' c = μ c
  | 0, fuel + 1, i, μ, hi, _ => by
    refine ⟨μ, ?_, fun j h1 h2 => by omega, fun _ _ => rfl⟩
    show sX3_begin_L26 (fX3_begin_L26 t fuel) t (nI i) μ = _
    unfold sX3_begin_L26
    rw [if_pos (show 60 ≤ nI i from (le_nI (a := 60) (by omega) (by omega)).mpr (by omega))]
  | m + 1, fuel + 1, i, μ, hi, hf => by
    have key : ∀ (m fuel i : Nat) (μ : Mem) (q : Nat), i + m = 60 → m < fuel → q < i → ∀ μ', fX3_begin_L26 t fuel (nI i) μ = some ((), μ') → μ' (t + 4) q = μ (t + 4) q := by
      intro m
      induction m with
      | zero =>
        intro fuel i μ q h1 h2 h3 μ' h4
        obtain ⟨fuel, rfl⟩ : ∃ f, fuel = f + 1 := ⟨fuel - 1, by omega⟩
        have h4 : sX3_begin_L26 (fX3_begin_L26 t fuel) t (nI i) μ = some ((), μ') := h4
        unfold sX3_begin_L26 at h4
        rw [if_pos (show 60 ≤ nI i from (le_nI (a := 60) (by omega) (by omega)).mpr (by omega))] at h4
        cases h4
        rfl
      | succ m ih =>
        intro fuel i μ q h1 h2 h3 μ' h4
        obtain ⟨fuel, rfl⟩ : ∃ f, fuel = f + 1 := ⟨fuel - 1, by omega⟩
        have h4 : sX3_begin_L26 (fX3_begin_L26 t fuel) t (nI i) μ = some ((), μ') := h4
        unfold sX3_begin_L26 at h4
        rw [if_neg (show ¬ 60 ≤ nI i from fun z => absurd ((le_nI (a := 60) (by omega) (by omega)).mp z) (by omega)), if_pos (inb_nI (by omega) (by omega)), ltm_e, lti_e, nI_1, cl_nI (by omega)] at h4
        rw [ih fuel (i + 1) _ q (by omega) (by omega) (by omega) μ' h4, up2_kn _ _ (by omega)]
    obtain ⟨μ', e1, e2, e3⟩ := X3_clear_L t m fuel (i + 1) (up2 μ (t + 4) i 0) (by omega) (by omega)
    refine ⟨μ', ?_, fun j h1 h2 => ?_, fun c hc => ?_⟩
    · show sX3_begin_L26 (fX3_begin_L26 t fuel) t (nI i) μ = _
      unfold sX3_begin_L26
      rw [if_neg (show ¬ 60 ≤ nI i from fun z => absurd ((le_nI (a := 60) (by omega) (by omega)).mp z) (by omega)), if_pos (inb_nI (by omega) (by omega)), ltm_e, lti_e, nI_1, cl_nI (by omega)]
      exact e1
    · by_cases hj : j = i
      · subst hj
        rw [key m fuel (j + 1) _ j (by omega) (by omega) (by omega) μ' e1, up2_ks]
      · exact e2 j (by omega) h2
    · rw [e3 c hc, up2_n _ _ _ hc]
  | 0, 0, _, _, _, hf => absurd hf (by omega)
  | m + 1, 0, _, _, _, hf => absurd hf (by omega)
theorem X6_clear_L {k : Nat} (hk : k < 4) : ∀ (m fuel i : Nat) (μ : Mem), i + m = 60 → m < fuel → ∃ μ', fX6_sheet_L57 (nI k) fuel (nI i) μ = some (1, μ') ∧ (∀ j, j < 240 → μ' 34 j = if 60 * k + i ≤ j ∧ j < 60 * k + 60 then 0 else μ 34 j) ∧ ∀ c, c ≠ 34 → μ' c = μ c
  | 0, fuel + 1, i, μ, hi, _ => by
    refine ⟨μ, ?_, fun j h1 => by rw [if_neg (by omega)], fun _ _ => rfl⟩
    show sX6_sheet_L57 (fX6_sheet_L57 (nI k) fuel) (nI k) (nI i) μ = _
    unfold sX6_sheet_L57
    rw [if_pos (show 60 ≤ nI i from (le_nI (a := 60) (by omega) (by omega)).mpr (by omega))]
  | m + 1, fuel + 1, i, μ, hi, hf => by
    have e0 : (60 : Int32) * nI k + nI i = nI (60 * k + i) := by rw [show (60 : Int32) = nI 60 from rfl, pk_mul, nI_add]
    obtain ⟨μ', e1, e2, e3⟩ := X6_clear_L hk m fuel (i + 1) (up2 μ 34 (60 * k + i) 0) (by omega) (by omega)
    refine ⟨μ', ?_, fun j h1 => ?_, fun c hc => ?_⟩
    · show sX6_sheet_L57 (fX6_sheet_L57 (nI k) fuel) (nI k) (nI i) μ = _
      unfold sX6_sheet_L57
      rw [if_neg (show ¬ 60 ≤ nI i from fun z => absurd ((le_nI (a := 60) (by omega) (by omega)).mp z) (by omega)), e0, if_pos (inb_nI (by omega) (by omega)), ltm_e, lti_e, nI_1, cl_nI (by omega)]
      exact e1
    · rw [e2 j h1]
      by_cases hj : j = 60 * k + i
      · subst hj
        rw [if_neg (by omega), if_pos (by omega), up2_ks]
      · rw [up2_kn _ _ hj]
        by_cases hc : 60 * k + (i + 1) ≤ j ∧ j < 60 * k + 60
        · rw [if_pos hc, if_pos (by omega)]
        · rw [if_neg hc, if_neg (by omega)]
    · rw [e3 c hc, up2_n _ _ _ hc]
  | 0, 0, _, _, _, hf => absurd hf (by omega)
  | m + 1, 0, _, _, _, hf => absurd hf (by omega)
theorem nI_of0 {x : Int32} (h : 0 ≤ x) : ∃ j : Nat, j < 2 ^ 31 ∧ x = nI j := nI_of (fun z => by
  have h1 := Int32.le_iff_toInt_le.mp h
  have h2 := Int32.lt_iff_toInt_lt.mp z
  omega)
theorem op_sheet (x y z : Int32) : St (fX5_sheet x y z) (fX6_sheet x y z) := by
  rintro μ ⟨ls, wm, dm, rs, hR⟩
  have hR' := hR
  obtain ⟨-, -, hS, -, hfl⟩ := hR
  rcases zu_3 x with hz | ⟨hz, k, hk, rfl⟩
  · refine ⟨-1, up2 μ 0 6 0, up2 (up2 μ 0 6 0) 31 0 0, ?_, ?_, ls, wm, dm, rs, hR'.flt 0⟩
    · unfold fX5_sheet
      rw [ltm_e, sheetAt_no hz, bnd_s, oe_n]
    · unfold fX6_sheet
      rw [ltm_e, isSheet_eq, bnd_s, if_pos hz]
  · have hk4 : k < 4 := by omega
    have hi : inb (nI k) 4 := inb_nI hk4 (by omega)
    rcases zu_2 y with hy | ⟨hy, l, hl, rfl⟩
    · refine ⟨-2, up2 μ 0 6 0, up2 (up2 μ 0 6 0) 31 0 0, ?_, ?_, ls, wm, dm, rs, hR'.flt 0⟩
      · unfold fX5_sheet
        rw [ltm_e, sheetAt_yes hk4 hz, bnd_s, oe_s, isUpTo_eq, bnd_s, if_pos hy]
      · unfold fX6_sheet
        rw [ltm_e, isSheet_eq, bnd_s, if_neg (zu_n0 hz), isSort_eq, bnd_s, if_pos hy]
    · by_cases h60 : z ≤ 60
      · by_cases h0 : 0 ≤ z
        · obtain ⟨n, hn, rfl⟩ := nI_of0 h0
          have hn60 : n ≤ 60 := (le_nI (b := 60) hn (by omega)).mp h60
          obtain ⟨μ1, e1, e2, e3⟩ := X3_clear_L (22 + 1 + k) 60 FU 0 (up2 (up2 (up2 (up2 μ 0 6 0) (22 + 1 + k) 1 1) (22 + 1 + k) 2 (nI l)) (22 + 1 + k) 3 (nI n)) rfl (by decide)
          obtain ⟨μ2, f1, f2, f3⟩ := X6_clear_L hk4 60 FU 0 (up2 (up2 (up2 μ1 31 0 0) 32 k (nI l)) 33 k (nI n)) rfl (by decide)
          refine ⟨1, μ1, μ2, ?_, ?_, ls, wm, dm, rs, ?_⟩
          · unfold fX5_sheet fX3_begin
            rw [ltm_e, sheetAt_yes hk4 hz, bnd_s, oe_s, isUpTo_eq, bnd_s, if_neg (zu_n0 hy), if_pos h60, if_pos h0, ltm_e, ltm_e, ltm_e]
            rw [if_neg (show ¬ nI n < 0 from nI_pos hn), if_neg (show ¬ 60 < nI n from fun z => absurd ((lt_nI (a := 60) (by omega) (by omega)).mp z) (by omega))]
            have e1' : fX3_begin_L26 (22 + 1 + k) FU 0 (up2 (up2 (up2 (up2 μ 0 6 0) (22 + 1 + k) 1 1) (22 + 1 + k) 2 (nI l)) (22 + 1 + k) 3 (nI n)) = some ((), μ1) := e1
            rw [e1', bnd_s]
          · unfold fX6_sheet
            rw [ltm_e, isSheet_eq, bnd_s, if_neg (zu_n0 hz), isSort_eq, bnd_s, if_neg (zu_n0 hy), if_pos h60, if_pos h0, if_pos hi, ltm_e, if_pos hi, ltm_e, cl_nI (by omega)]
            exact f1
          · have fc : ∀ c, c ≠ 34 → c ≠ 33 → c ≠ 32 → c ≠ 31 → μ2 c = μ1 c := fun c h1 h2 h3 h4 => by rw [f3 c h1, up2_n _ _ _ h2, up2_n _ _ _ h3, up2_n _ _ _ h4]
            have ec : ∀ c, c ≠ 22 + 1 + k + 4 → c ≠ 22 + 1 + k → c ≠ 0 → μ1 c = μ c := fun c h1 h2 h3 => by rw [e3 c h1, up2_n _ _ _ h2, up2_n _ _ _ h2, up2_n _ _ _ h2, up2_n _ _ _ h3]
            have m31 : ∀ f, f ≠ 0 → μ2 31 f = μ1 31 f := fun f hf => by rw [f3 31 (by decide), up2_n _ _ _ (by decide), up2_n _ _ _ (by decide), up2_kn _ _ hf]
            have m310 : μ2 31 0 = 0 := by rw [f3 31 (by decide), up2_n _ _ _ (by decide), up2_n _ _ _ (by decide), up2_ks]
            have x0 : ∀ b, b ≠ 6 → μ1 0 b = μ 0 b := fun b hb => by rw [e3 0 (by omega), up2_n _ _ _ (by omega), up2_n _ _ _ (by omega), up2_n _ _ _ (by omega), up2_kn _ _ hb]
            have x06 : μ1 0 6 = 0 := by rw [e3 0 (by omega), up2_n _ _ _ (by omega), up2_n _ _ _ (by omega), up2_n _ _ _ (by omega), up2_ks]
            refine hR'.sh (hS.one hk4 ⟨Or.inr ⟨?_, ?_, ⟨l, hl, ?_⟩, n, hn60, ?_, ?_⟩, fun i hi => ?_⟩ (fun j hj hne => ⟨?_, ?_, ?_, ?_, fun i hi => ?_⟩)) (fun i h1 h2 h3 h4 => ?_) (fun f hf => ?_) ?_ ?_
            · rw [fc _ (by omega) (by omega) (by omega) (by omega), e3 _ (by omega)]; simp [up2_ap]
            · rw [f3 32 (by decide), up2_n _ _ _ (by decide), up2_ks, fc _ (by omega) (by omega) (by omega) (by omega), e3 _ (by omega)]; simp [up2_ap]
            · rw [fc _ (by omega) (by omega) (by omega) (by omega), e3 _ (by omega)]; simp [up2_ap]
            · rw [fc _ (by omega) (by omega) (by omega) (by omega), e3 _ (by omega)]; simp [up2_ap]
            · rw [f3 33 (by decide), up2_ks]
            · rw [fc _ (by omega) (by omega) (by omega) (by omega), e2 i (Nat.zero_le _) hi, f2 (60 * k + i) (by omega), if_pos (by omega)]
            · rw [fc _ (by omega) (by omega) (by omega) (by omega), ec _ (by omega) (by omega) (by omega)]
            · rw [fc _ (by omega) (by omega) (by omega) (by omega), ec _ (by omega) (by omega) (by omega)]
            · rw [f3 32 (by decide), up2_n _ _ _ (by decide), up2_kn _ _ hne, up2_n _ _ _ (by decide), ec 32 (by omega) (by omega) (by omega)]
            · rw [f3 33 (by decide), up2_kn _ _ hne, up2_n _ _ _ (by decide), up2_n _ _ _ (by decide), ec 33 (by omega) (by omega) (by omega)]
            · rw [f2 (60 * j + i) (by omega), if_neg (by omega), up2_n _ _ _ (by decide), up2_n _ _ _ (by decide), up2_n _ _ _ (by decide), ec 34 (by omega) (by omega) (by omega)]
            · rw [fc i (by omega) (by omega) (by omega) h2, ec i (by omega) (by omega) h1]
            · rw [m31 f hf, ec 31 (by omega) (by omega) (by omega)]
            · rw [fc 0 (by decide) (by decide) (by decide) (by decide), x0 5 (by decide)]
            · rw [fc 0 (by decide) (by decide) (by decide) (by decide), x06, m310]
        · refine ⟨-10 - 4, up2 μ 0 6 4, up2 (up2 μ 0 6 4) 31 0 4, ?_, ?_, ls, wm, dm, rs, hR'.flt 4⟩
          · unfold fX5_sheet
            rw [ltm_e, sheetAt_yes hk4 hz, bnd_s, oe_s, isUpTo_eq, bnd_s, if_neg (zu_n0 hy), if_pos h60, if_neg h0, failed_eq, bnd_s, upp]
          · unfold fX6_sheet
            rw [ltm_e, isSheet_eq, bnd_s, if_neg (zu_n0 hz), isSort_eq, bnd_s, if_neg (zu_n0 hy), if_pos h60, if_neg h0, fails_eq, bnd_s, upp]
      · refine ⟨-2, up2 μ 0 6 0, up2 (up2 μ 0 6 0) 31 0 0, ?_, ?_, ls, wm, dm, rs, hR'.flt 0⟩
        · unfold fX5_sheet
          rw [ltm_e, sheetAt_yes hk4 hz, bnd_s, oe_s, isUpTo_eq, bnd_s, if_neg (zu_n0 hy), if_neg h60]
        · unfold fX6_sheet
          rw [ltm_e, isSheet_eq, bnd_s, if_neg (zu_n0 hz), isSort_eq, bnd_s, if_neg (zu_n0 hy), if_neg h60]
/-! cells -/
theorem len_m1 : ∀ n : Fin 61, (nI n.val - 1).toInt = (n.val : Int) - 1 := by decide +kernel
/-- a place of a row of n: the class and the reference test it alike -/
theorem pl_cs (x : Int32) {n : Nat} (hn : n ≤ 60) : (x < 0 ∨ ¬ x < 0 ∧ nI n ≤ x) ∧ zu x (nI n - 1) = 0 ∨ ∃ j, j < n ∧ x = nI j ∧ ¬ x < 0 ∧ ¬ nI n ≤ x ∧ zu x (nI n - 1) = 1 := by
  have h1 := len_m1 ⟨n, by omega⟩
  dsimp only at h1
  by_cases h0 : x < 0
  · refine Or.inl ⟨Or.inl h0, ?_⟩
    unfold zu
    rw [if_pos h0]
  · by_cases hle : nI n ≤ x
    · refine Or.inl ⟨Or.inr ⟨h0, hle⟩, ?_⟩
      unfold zu
      have h2 := Int32.le_iff_toInt_le.mp hle
      rw [nI_toInt (by omega)] at h2
      rw [if_neg h0, if_pos (Int32.lt_iff_toInt_lt.mpr (by omega))]
    · obtain ⟨j, hj, rfl⟩ := nI_of h0
      have hjn : j < n := by
        rcases Nat.lt_or_ge j n with q | q
        · exact q
        · exact absurd ((le_nI (by omega) hj).mpr q) hle
      refine Or.inr ⟨j, hjn, rfl, h0, hle, ?_⟩
      unfold zu
      have h2 : ¬ nI n - 1 < nI j := fun z => by
        have h3 := Int32.lt_iff_toInt_lt.mp z
        rw [h1, nI_toInt (by omega)] at h3
        omega
      rw [if_neg h0, if_neg h2]
theorem SH.c0 {μ : Mem} (h : SH μ) (b : Nat) (v : Int32) : SH (up2 μ 0 b v) := h.fr (fun i hi => up2_n _ _ _ (by omega))
theorem SH.c31 {μ : Mem} (h : SH μ) (b : Nat) (v : Int32) : SH (up2 μ 31 b v) := h.fr (fun i hi => up2_n _ _ _ (by omega))
theorem op_put (x y z : Int32) : St (fX5_put x y z) (fX6_put x y z) := by
  rintro μ ⟨ls, wm, dm, rs, hR⟩
  have hR' := hR
  obtain ⟨-, -, hS, -, hfl⟩ := hR
  rcases zu_3 x with hz | ⟨hz, k, hk, rfl⟩
  · refine ⟨-1, up2 μ 0 6 0, up2 (up2 μ 0 6 0) 31 0 0, ?_, ?_, ls, wm, dm, rs, hR'.flt 0⟩
    · unfold fX5_put
      rw [ltm_e, sheetAt_no hz, bnd_s, oe_n]
    · unfold fX6_put
      rw [ltm_e, isSheet_eq, bnd_s, if_pos hz]
  · have hk4 : k < 4 := by omega
    have hi : inb (nI k) 4 := inb_nI hk4 (by omega)
    have g : ∀ v, up2 μ 0 6 v (22 + 1 + k) = μ (22 + 1 + k) := fun v => up2_n _ _ _ (by omega)
    have g32 : ∀ v w, up2 (up2 μ 0 6 v) 31 0 w 32 = μ 32 := fun v w => (up2_n _ _ _ (by decide)).trans (up2_n _ _ _ (by decide))
    have g33 : ∀ v w, up2 (up2 μ 0 6 v) 31 0 w 33 = μ 33 := fun v w => (up2_n _ _ _ (by decide)).trans (up2_n _ _ _ (by decide))
    rcases (hS k hk4).1 with ⟨h1, h2⟩ | ⟨h1, h2, ⟨l, hl, ev⟩, n, hn, e3, e4⟩
    · refine ⟨-10 - 1, up2 μ 0 6 1, up2 (up2 μ 0 6 1) 31 0 1, ?_, ?_, ls, wm, dm, rs, hR'.flt 1⟩
      · unfold fX5_put fX3_faultOfCell
        rw [ltm_e, sheetAt_yes hk4 hz, bnd_s, oe_s, g, if_pos h1, bnd_s, if_neg (by decide), failed_eq, bnd_s, upp]
      · unfold fX6_put
        rw [ltm_e, isSheet_eq, bnd_s, if_neg (zu_n0 hz), if_pos hi, cl_nI (by omega), g32, if_pos h2, fails_eq, bnd_s, upp]
    · have ne : ¬ μ 32 k = -9 := by rw [h2, ev]; exact enO_ne (by omega)
      have n1 : ¬ μ (22 + 1 + k) 1 = 0 := by rw [h1]; decide
      rcases pl_cs y hn with ⟨hp, hzu⟩ | ⟨j, hj, rfl, hp0, hp1, hzu⟩
      · refine ⟨-10 - 3, up2 μ 0 6 3, up2 (up2 μ 0 6 3) 31 0 3, ?_, ?_, ls, wm, dm, rs, hR'.flt 3⟩
        · unfold fX5_put fX3_faultOfCell
          rw [ltm_e, sheetAt_yes hk4 hz, bnd_s, oe_s, g, if_neg n1]
          rcases hp with hp | ⟨hp0, hp⟩
          · rw [if_pos hp, bnd_s, if_neg (by decide), failed_eq, bnd_s, upp]
          · rw [if_neg hp0, e3, if_pos hp, bnd_s, if_neg (by decide), failed_eq, bnd_s, upp]
        · unfold fX6_put
          rw [ltm_e, isSheet_eq, bnd_s, if_neg (zu_n0 hz), if_pos hi, cl_nI (by omega), g32, if_neg ne, if_pos hi, g33, e4, within_eq, bnd_s, if_pos hzu, fails_eq, bnd_s, upp]
      · have hj60 : j < 60 := by omega
        have e0 : (60 : Int32) * nI k + nI j = nI (60 * k + j) := by rw [show (60 : Int32) = nI 60 from rfl, pk_mul, nI_add]
        have i240 : inb (nI (60 * k + j)) 240 := inb_nI (by omega) (by omega)
        have fin : ∀ c : Int32, RR (up2 (up2 (up2 (up2 μ 0 6 0) (22 + 1 + k + 4) j c) 31 0 0) 34 (60 * k + j) c) ls wm dm rs := by
          intro c
          refine hR'.sh (hS.one hk4 ⟨Or.inr ⟨?_, ?_, ⟨l, hl, ?_⟩, n, hn, ?_, ?_⟩, fun i hi => ?_⟩ (fun q hq hne => ⟨?_, ?_, ?_, ?_, fun i hi => ?_⟩)) (fun i h1 h2 h3 h4 => ?_) (fun f hf => ?_) ?_ ?_
          · rw [up2_n _ _ _ (by omega), up2_n _ _ _ (by omega), up2_n _ _ _ (by omega), up2_n _ _ _ (by omega)]; exact h1
          · rw [up2_n _ _ _ (by omega), up2_n _ _ _ (by omega), up2_n _ _ _ (by omega), up2_n _ _ _ (by omega), up2_n _ _ _ (by omega), up2_n _ _ _ (by omega), up2_n _ _ _ (by omega), up2_n _ _ _ (by omega)]; exact h2
          · rw [up2_n _ _ _ (by omega), up2_n _ _ _ (by omega), up2_n _ _ _ (by omega), up2_n _ _ _ (by omega)]; exact ev
          · rw [up2_n _ _ _ (by omega), up2_n _ _ _ (by omega), up2_n _ _ _ (by omega), up2_n _ _ _ (by omega)]; exact e3
          · rw [up2_n _ _ _ (by omega), up2_n _ _ _ (by omega), up2_n _ _ _ (by omega), up2_n _ _ _ (by omega)]; exact e4
          · rw [up2_n _ _ _ (by omega), up2_n _ _ _ (by omega)]
            by_cases hij : i = j
            · subst hij
              rw [up2_ks, up2_ks]
            · rw [up2_kn _ _ hij, up2_n _ _ _ (by omega), up2_kn _ _ (by omega), up2_n _ _ _ (by omega), up2_n _ _ _ (by omega), up2_n _ _ _ (by omega)]
              exact (hS k hk4).2 i hi
          · rw [up2_n _ _ _ (by omega), up2_n _ _ _ (by omega), up2_n _ _ _ (by omega), up2_n _ _ _ (by omega)]
          · rw [up2_n _ _ _ (by omega), up2_n _ _ _ (by omega), up2_n _ _ _ (by omega), up2_n _ _ _ (by omega)]
          · rw [up2_n _ _ _ (by omega), up2_n _ _ _ (by omega), up2_n _ _ _ (by omega), up2_n _ _ _ (by omega)]
          · rw [up2_n _ _ _ (by omega), up2_n _ _ _ (by omega), up2_n _ _ _ (by omega), up2_n _ _ _ (by omega)]
          · rw [up2_kn _ _ (by omega), up2_n _ _ _ (by omega), up2_n _ _ _ (by omega), up2_n _ _ _ (by omega)]
          · rw [up2_n _ _ _ (by omega), up2_n _ _ _ (by omega), up2_n _ _ _ (by omega), up2_n _ _ _ (by omega)]
          · rw [up2_n _ _ _ (by omega), up2_kn _ _ hf, up2_n _ _ _ (by omega), up2_n _ _ _ (by omega)]
          · rw [up2_n _ _ _ (by omega), up2_n _ _ _ (by omega), up2_n _ _ _ (by omega), up2_kn _ _ (by decide)]
          · rw [up2_n _ _ _ (by omega), up2_n _ _ _ (by omega), up2_n _ _ _ (by omega), up2_ks, up2_n _ _ _ (by omega), up2_ks]
        have f32 : ∀ c, up2 (up2 (up2 μ 0 6 0) (22 + 1 + k + 4) j c) 31 0 0 32 = μ 32 := fun c => by rw [up2_n _ _ _ (by omega), up2_n _ _ _ (by omega), up2_n _ _ _ (by omega)]
        have f33 : ∀ c, up2 (up2 (up2 μ 0 6 0) (22 + 1 + k + 4) j c) 31 0 0 33 = μ 33 := fun c => by rw [up2_n _ _ _ (by omega), up2_n _ _ _ (by omega), up2_n _ _ _ (by omega)]
        have cl5 : ∀ c, fX3_cut (22 + 1 + k) z (up2 μ 0 6 0) = some (c, up2 μ 0 6 0) → fX5_put (nI k) (nI j) z μ = some (1, up2 (up2 μ 0 6 0) (22 + 1 + k + 4) j c) := by
          intro c hc
          unfold fX5_put fX3_faultOfCell fX3_setCell
          rw [ltm_e, sheetAt_yes hk4 hz, bnd_s, oe_s, g, if_neg n1, if_neg hp0, e3, if_neg hp1, bnd_s, if_pos rfl, if_neg hp0, g, e3, if_neg hp1, hc, bnd_s, if_pos (inb_nI hj60 (by omega)), ltm_e, cl_nI (by omega), bnd_s]
        have l3 : l = 0 ∨ l = 1 ∨ l = 2 := by omega
        rcases l3 with rfl | rfl | rfl
        · refine ⟨1, _, _, cl5 z.toInt8.toInt32 ?_, ?_, ls, wm, dm, rs, fin z.toInt8.toInt32⟩
          · unfold fX3_cut
            rw [g, ev, if_pos (show nI 0 = 0 from rfl)]
          · unfold fX6_put
            rw [ltm_e, isSheet_eq, bnd_s, if_neg (zu_n0 hz), if_pos hi, cl_nI (by omega), f32, if_neg ne, if_pos hi, f33, e4, within_eq, bnd_s, if_neg (zu_n0 hzu), if_pos hi, f32, h2, ev, if_pos (show nI 0 = 0 from rfl), e0, if_pos i240, ltm_e, cl_nI (by omega)]
        · refine ⟨1, _, _, cl5 z.toInt16.toInt32 ?_, ?_, ls, wm, dm, rs, fin z.toInt16.toInt32⟩
          · unfold fX3_cut
            rw [g, ev, if_neg (show ¬ nI 1 = 0 from by decide), if_pos (show nI 1 = 1 from rfl)]
          · unfold fX6_put
            rw [ltm_e, isSheet_eq, bnd_s, if_neg (zu_n0 hz), if_pos hi, cl_nI (by omega), f32, if_neg ne, if_pos hi, f33, e4, within_eq, bnd_s, if_neg (zu_n0 hzu), if_pos hi, f32, h2, ev, if_neg (show ¬ nI 1 = 0 from by decide), if_pos hi, if_pos (show nI 1 = 1 from rfl), e0, if_pos i240, ltm_e, cl_nI (by omega)]
        · refine ⟨1, _, _, cl5 z ?_, ?_, ls, wm, dm, rs, fin z⟩
          · unfold fX3_cut
            rw [g, ev, if_neg (show ¬ nI 2 = 0 from by decide), if_neg (show ¬ nI 2 = 1 from by decide)]
          · unfold fX6_put
            rw [ltm_e, isSheet_eq, bnd_s, if_neg (zu_n0 hz), if_pos hi, cl_nI (by omega), f32, if_neg ne, if_pos hi, f33, e4, within_eq, bnd_s, if_neg (zu_n0 hzu), if_pos hi, f32, h2, ev, if_neg (show ¬ nI 2 = 0 from by decide), if_pos hi, if_neg (show ¬ nI 2 = 1 from by decide), e0, if_pos i240, ltm_e, cl_nI (by omega)]
