/-! PURE: cell, copy -/
theorem lost_eq (x : Int32) (μ : Mem) : fX6_lost x μ = some ((-9223372036854775808 : Int64), up2 μ 31 0 x) := rfl
theorem op_cell (x y z : Int32) : St (fX5_cell x y z) (fX6_cell x y z) := by
  rintro μ ⟨ls, wm, dm, rs, hR⟩
  have hR' := hR
  obtain ⟨-, -, hS, -, hfl⟩ := hR
  rcases zu_3 x with hz | ⟨hz, k, hk, rfl⟩
  · refine ⟨-9223372036854775808, up2 μ 0 6 0, up2 (up2 μ 0 6 0) 31 0 0, ?_, ?_, ls, wm, dm, rs, hR'.flt 0⟩
    · unfold fX5_cell
      rw [ltm_e, sheetAt_no hz, bnd_s, oe_n]
    · unfold fX6_cell
      rw [ltm_e, isSheet_eq, bnd_s, if_pos hz]
  · have hk4 : k < 4 := by omega
    have hi : inb (nI k) 4 := inb_nI hk4 (by omega)
    have g : ∀ v, up2 μ 0 6 v (22 + 1 + k) = μ (22 + 1 + k) := fun v => up2_n _ _ _ (by omega)
    have g4 : ∀ v, up2 μ 0 6 v (22 + 1 + k + 4) = μ (22 + 1 + k + 4) := fun v => up2_n _ _ _ (by omega)
    have g32 : ∀ v w, up2 (up2 μ 0 6 v) 31 0 w 32 = μ 32 := fun v w => (up2_n _ _ _ (by decide)).trans (up2_n _ _ _ (by decide))
    have g33 : ∀ v w, up2 (up2 μ 0 6 v) 31 0 w 33 = μ 33 := fun v w => (up2_n _ _ _ (by decide)).trans (up2_n _ _ _ (by decide))
    have g34 : ∀ v w, up2 (up2 μ 0 6 v) 31 0 w 34 = μ 34 := fun v w => (up2_n _ _ _ (by decide)).trans (up2_n _ _ _ (by decide))
    by_cases hy : zu z 2 = 0
    · refine ⟨-9223372036854775808, up2 μ 0 6 0, up2 (up2 μ 0 6 0) 31 0 0, ?_, ?_, ls, wm, dm, rs, hR'.flt 0⟩
      · unfold fX5_cell
        rw [ltm_e, sheetAt_yes hk4 hz, bnd_s, oe_s, isUpTo_eq, bnd_s, if_pos hy]
      · unfold fX6_cell
        rw [ltm_e, isSheet_eq, bnd_s, if_neg (zu_n0 hz), isSort_eq, bnd_s, if_pos hy]
    · rcases (hS k hk4).1 with ⟨h1, h2⟩ | ⟨h1, h2, ⟨l, hl, ev⟩, n, hn, e3, e4⟩
      · refine ⟨-9223372036854775808, up2 μ 0 6 1, up2 (up2 μ 0 6 1) 31 0 1, ?_, ?_, ls, wm, dm, rs, hR'.flt 1⟩
        · unfold fX5_cell fX3_faultAsLane
          rw [ltm_e, sheetAt_yes hk4 hz, bnd_s, oe_s, isUpTo_eq, bnd_s, if_neg hy, g, if_pos h1, bnd_s, if_neg (by decide), if_neg (by decide), ltm_e, upp]
        · unfold fX6_cell
          rw [ltm_e, isSheet_eq, bnd_s, if_neg (zu_n0 hz), isSort_eq, bnd_s, if_neg hy, if_pos hi, cl_nI (by omega), g32, if_pos h2, if_pos hi, if_pos h2, lost_eq, bnd_s, upp]
      · have ne : ¬ μ 32 k = -9 := by rw [h2, ev]; exact enO_ne (by omega)
        have n1 : ¬ μ (22 + 1 + k) 1 = 0 := by rw [h1]; decide
        by_cases hla : μ (22 + 1 + k) 2 = z
        · have hla6 : μ 32 k = z := h2.trans hla
          rcases pl_cs y hn with ⟨hp, hzu⟩ | ⟨j, hj, rfl, hp0, hp1, hzu⟩
          · refine ⟨-9223372036854775808, up2 μ 0 6 3, up2 (up2 μ 0 6 3) 31 0 3, ?_, ?_, ls, wm, dm, rs, hR'.flt 3⟩
            · unfold fX5_cell fX3_faultAsLane fX3_faultOfCell
              rw [ltm_e, sheetAt_yes hk4 hz, bnd_s, oe_s, isUpTo_eq, bnd_s, if_neg hy, g, if_neg n1, if_pos hla, bnd_s, if_pos rfl, g, if_neg n1]
              rcases hp with hp | ⟨hp0, hp⟩
              · rw [if_pos hp, bnd_s, if_neg (by decide), ltm_e, upp]
              · rw [if_neg hp0, e3, if_pos hp, bnd_s, if_neg (by decide), ltm_e, upp]
            · unfold fX6_cell
              rw [ltm_e, isSheet_eq, bnd_s, if_neg (zu_n0 hz), isSort_eq, bnd_s, if_neg hy, if_pos hi, cl_nI (by omega), g32, if_neg ne, if_pos hi, if_pos hla6, if_pos hi, if_neg ne, if_pos hi, g33, e4, within_eq, bnd_s, if_pos hzu, lost_eq, bnd_s, upp]
          · have hj60 : j < 60 := by omega
            have e0 : (60 : Int32) * nI k + nI j = nI (60 * k + j) := by rw [show (60 : Int32) = nI 60 from rfl, pk_mul, nI_add]
            have i240 : inb (nI (60 * k + j)) 240 := inb_nI (by omega) (by omega)
            refine ⟨(μ 34 (60 * k + j)).toInt64, up2 μ 0 6 0, up2 (up2 μ 0 6 0) 31 0 0, ?_, ?_, ls, wm, dm, rs, hR'.flt 0⟩
            · unfold fX5_cell fX3_faultAsLane fX3_faultOfCell fX3_getCell
              rw [ltm_e, sheetAt_yes hk4 hz, bnd_s, oe_s, isUpTo_eq, bnd_s, if_neg hy, g, if_neg n1, if_pos hla, bnd_s, if_pos rfl, g, if_neg n1, if_neg hp0, e3, if_neg hp1, bnd_s, if_pos rfl, if_neg hp0, g, e3, if_neg hp1, if_pos (inb_nI hj60 (by omega)), bnd_s, cl_nI (by omega), g4, (hS k hk4).2 j hj60]
            · unfold fX6_cell
              rw [ltm_e, isSheet_eq, bnd_s, if_neg (zu_n0 hz), isSort_eq, bnd_s, if_neg hy, if_pos hi, cl_nI (by omega), g32, if_neg ne, if_pos hi, if_pos hla6, if_pos hi, if_neg ne, if_pos hi, g33, e4, within_eq, bnd_s, if_neg (zu_n0 hzu), e0, if_pos i240, cl_nI (by omega), g34]
        · have hla6 : ¬ μ 32 k = z := fun q => hla (h2.symm.trans q)
          refine ⟨-9223372036854775808, up2 μ 0 6 2, up2 (up2 μ 0 6 2) 31 0 2, ?_, ?_, ls, wm, dm, rs, hR'.flt 2⟩
          · unfold fX5_cell fX3_faultAsLane
            rw [ltm_e, sheetAt_yes hk4 hz, bnd_s, oe_s, isUpTo_eq, bnd_s, if_neg hy, g, if_neg n1, if_neg hla, bnd_s, if_neg (by decide), if_neg (by decide), ltm_e, upp]
          · unfold fX6_cell
            rw [ltm_e, isSheet_eq, bnd_s, if_neg (zu_n0 hz), isSort_eq, bnd_s, if_neg hy, if_pos hi, cl_nI (by omega), g32, if_neg ne, if_pos hi, if_neg hla6, lost_eq, bnd_s, upp]
/-- the reference's copy: q cells have gone -/
theorem X6_copy_L {k o i j n : Nat} (hk : k < 4) (ho : o < 4) (hi : i + n ≤ 60) (hj : j + n ≤ 60) (ahead : Bool) (hah : if ahead then i < j else j ≤ i) {μ0 : Mem} : ∀ (m fuel q : Nat) (μ : Mem), q + m = n → m < fuel →
    (∀ y, y < 240 → μ 34 y = if (if ahead then 60 * o + j + n - q ≤ y ∧ y < 60 * o + j + n else 60 * o + j ≤ y ∧ y < 60 * o + j + q) then μ0 34 (60 * k + i + (y - (60 * o + j))) else μ0 34 y) →
    ∃ μ', fX6_copy_L166 (nI k) (nI i) (nI o) (nI j) (nI n) (zo ahead) fuel (nI q) μ = some (nI n, μ') ∧ (∀ y, y < 240 → μ' 34 y = if 60 * o + j ≤ y ∧ y < 60 * o + j + n then μ0 34 (60 * k + i + (y - (60 * o + j))) else μ0 34 y) ∧ ∀ c, c ≠ 34 → μ' c = μ c := by
  intro m
  induction m with
  | zero =>
    intro fuel q μ hq hf hinv
    obtain ⟨fuel, rfl⟩ : ∃ f, fuel = f + 1 := ⟨fuel - 1, by omega⟩
    refine ⟨μ, ?_, fun y hy => ?_, fun _ _ => rfl⟩
    · show sX6_copy_L166 (fX6_copy_L166 (nI k) (nI i) (nI o) (nI j) (nI n) (zo ahead) fuel) (nI k) (nI i) (nI o) (nI j) (nI n) (zo ahead) (nI q) μ = _
      unfold sX6_copy_L166
      rw [if_pos ((le_nI (by omega) (by omega)).mpr (by omega))]
    · rw [hinv y hy]
      cases ahead with
      | true =>
        have e : (60 * o + j + n - q ≤ y ∧ y < 60 * o + j + n) ↔ (60 * o + j ≤ y ∧ y < 60 * o + j + n) := by omega
        simp only [if_true, e]
      | false =>
        have e : (60 * o + j ≤ y ∧ y < 60 * o + j + q) ↔ (60 * o + j ≤ y ∧ y < 60 * o + j + n) := by omega
        simp only [Bool.false_eq_true, if_false, e]
  | succ m ih =>
    intro fuel q μ hq hf hinv
    obtain ⟨fuel, rfl⟩ : ∃ f, fuel = f + 1 := ⟨fuel - 1, by omega⟩
    show ∃ μ', sX6_copy_L166 (fX6_copy_L166 (nI k) (nI i) (nI o) (nI j) (nI n) (zo ahead) fuel) (nI k) (nI i) (nI o) (nI j) (nI n) (zo ahead) (nI q) μ = _ ∧ _
    unfold sX6_copy_L166
    rw [if_neg (fun z => absurd ((le_nI (by omega) (by omega)).mp z) (by omega))]
    have ad : ∀ a b c : Nat, (60 : Int32) * nI a + nI b + nI c = nI (60 * a + b + c) := fun a b c => by rw [show (60 : Int32) = nI 60 from rfl, pk_mul, nI_add, nI_add]
    cases ahead with
    | false =>
      rw [if_pos (show zo false = 0 from rfl), ad, ad, if_pos (inb_nI (by omega) (by omega)), if_pos (inb_nI (by omega) (by omega)), ltm_e, lti_e, nI_1, cl_nI (by omega), cl_nI (by omega)]
      simp only [Bool.false_eq_true, if_false] at hinv hah
      have hsrc : μ 34 (60 * k + i + q) = μ0 34 (60 * k + i + q) := by
        rw [hinv _ (by omega), if_neg (by omega)]
      rw [hsrc]
      obtain ⟨μ', e1, e2, e3⟩ := ih fuel (q + 1) (up2 μ 34 (60 * o + j + q) (μ0 34 (60 * k + i + q))) (by omega) (by omega) (fun y hy => by
        simp only [Bool.false_eq_true, if_false]
        by_cases hyq : y = 60 * o + j + q
        · subst hyq
          rw [up2_ks, if_pos (by omega)]
          congr 1
          omega
        · rw [up2_kn _ _ hyq, hinv y hy]
          by_cases hc : 60 * o + j ≤ y ∧ y < 60 * o + j + q
          · rw [if_pos hc, if_pos (by omega)]
          · rw [if_neg hc, if_neg (by omega)])
      exact ⟨μ', e1, e2, fun c hc => by rw [e3 c hc, up2_n _ _ _ hc]⟩
    | true =>
      have es : nI n - 1 - nI q = nI (n - 1 - q) := by rw [sub1 (by omega), pk_sub (by omega)]
      rw [if_neg (show ¬ zo true = 0 from by decide), es, lti_e, ad, ad, if_pos (inb_nI (by omega) (by omega)), if_pos (inb_nI (by omega) (by omega)), ltm_e, lti_e, nI_1, cl_nI (by omega), cl_nI (by omega)]
      simp only [if_true] at hinv hah
      have hsrc : μ 34 (60 * k + i + (n - 1 - q)) = μ0 34 (60 * k + i + (n - 1 - q)) := by
        rw [hinv _ (by omega), if_neg (by omega)]
      rw [hsrc]
      obtain ⟨μ', e1, e2, e3⟩ := ih fuel (q + 1) (up2 μ 34 (60 * o + j + (n - 1 - q)) (μ0 34 (60 * k + i + (n - 1 - q)))) (by omega) (by omega) (fun y hy => by
        simp only [if_true]
        by_cases hyq : y = 60 * o + j + (n - 1 - q)
        · subst hyq
          rw [up2_ks, if_pos (by omega)]
          congr 1
          omega
        · rw [up2_kn _ _ hyq, hinv y hy]
          by_cases hc : 60 * o + j + n - q ≤ y ∧ y < 60 * o + j + n
          · rw [if_pos hc, if_pos (by omega)]
          · rw [if_neg hc, if_neg (by omega)])
      exact ⟨μ', e1, e2, fun c hc => by rw [e3 c hc, up2_n _ _ _ hc]⟩
/-- the class's test of cells: n of them from x on, of a row of len -/
def cellsOk (len : Nat) (x n : Int32) : Bool := !(decide (x < 0)) && !(decide (nI len < x)) && !(decide (n < 0)) && !(decide (nI len - x < n))
theorem foc_eq {μ : Mem} {t len : Nat} {x n : Int32} (h1 : ¬ μ t 1 = 0) (h3 : μ t 3 = nI len) : fX3_faultOfCells t x n μ = some (if cellsOk len x n then 0 else 3, μ) := by
  unfold fX3_faultOfCells cellsOk
  rw [if_neg h1, h3]
  by_cases a : x < 0
  · rw [if_pos a]; simp [a]
  · rw [if_neg a]
    by_cases b : nI len < x
    · rw [if_pos b]; simp [b]
    · rw [if_neg b]
      by_cases c : n < 0
      · rw [if_pos c]; simp [c]
      · rw [if_neg c]
        by_cases d : nI len - x < n
        · rw [if_pos d]; simp [d]
        · rw [if_neg d]
          have a' : decide (x < 0) = false := decide_eq_false a
          have b' : decide (nI len < x) = false := decide_eq_false b
          have c' : decide (n < 0) = false := decide_eq_false c
          have d' : decide (nI len - x < n) = false := decide_eq_false d
          rw [a', b', c', d']
          rfl
theorem cells_nat {len : Nat} (hl : len ≤ 60) {x n : Int32} (h : cellsOk len x n = true) : ∃ i m, x = nI i ∧ n = nI m ∧ i + m ≤ len := by
  unfold cellsOk at h
  simp only [Bool.and_eq_true, Bool.not_eq_true', decide_eq_false_iff_not] at h
  obtain ⟨⟨⟨a, b⟩, c⟩, d⟩ := h
  obtain ⟨i, hi, rfl⟩ := nI_of a
  obtain ⟨m, hm, rfl⟩ := nI_of c
  have hil : i ≤ len := by
    rcases Nat.lt_or_ge len i with q | q
    · exact absurd ((lt_nI (by omega) hi).mpr q) b
    · exact q
  rw [pk_sub hil] at d
  refine ⟨i, m, rfl, rfl, ?_⟩
  rcases Nat.lt_or_ge (len - i) m with q | q
  · exact absurd ((lt_nI (by omega) hm).mpr q) d
  · omega
theorem cells_no {len : Nat} {x n : Int32} (h : ¬ cellsOk len x n = true) : x < 0 ∨ nI len < x ∨ n < 0 ∨ nI len - x < n := by
  unfold cellsOk at h
  by_cases a : x < 0
  · exact Or.inl a
  · by_cases b : nI len < x
    · exact Or.inr (Or.inl b)
    · by_cases c : n < 0
      · exact Or.inr (Or.inr (Or.inl c))
      · by_cases d : nI len - x < n
        · exact Or.inr (Or.inr (Or.inr d))
        · exfalso
          apply h
          have a' : decide (x < 0) = false := decide_eq_false a
          have b' : decide (nI len < x) = false := decide_eq_false b
          have c' : decide (n < 0) = false := decide_eq_false c
          have d' : decide (nI len - x < n) = false := decide_eq_false d
          rw [a', b', c', d']
          rfl
theorem op_copy (x1 x2 x3 x4 x5 : Int32) : St (fX5_copy x1 x2 x3 x4 x5) (fX6_copy x1 x2 x3 x4 x5) := by
  rintro μ ⟨ls, wm, dm, rs, hR⟩
  have hR' := hR
  obtain ⟨-, -, hS, -, hfl⟩ := hR
  rcases zu_3 x1 with hz | ⟨hz, k, hk, rfl⟩
  · refine ⟨-1, up2 μ 0 6 0, up2 (up2 μ 0 6 0) 31 0 0, ?_, ?_, ls, wm, dm, rs, hR'.flt 0⟩
    · unfold fX5_copy
      rw [ltm_e, sheetAt_no hz, bnd_s, oe_n]
      rcases zu_3 x3 with hz3 | ⟨hz3, o, ho, rfl⟩
      · rw [sheetAt_no hz3, bnd_s, oe_n]
      · rw [sheetAt_yes (by omega) hz3, bnd_s, oe_s]
    · unfold fX6_copy
      rw [ltm_e, isSheet_eq, bnd_s, if_pos hz]
  · have hk4 : k < 4 := by omega
    have hi : inb (nI k) 4 := inb_nI hk4 (by omega)
    rcases zu_3 x3 with hz3 | ⟨hz3, o, ho, rfl⟩
    · refine ⟨-1, up2 μ 0 6 0, up2 (up2 μ 0 6 0) 31 0 0, ?_, ?_, ls, wm, dm, rs, hR'.flt 0⟩
      · unfold fX5_copy
        rw [ltm_e, sheetAt_yes hk4 hz, bnd_s, oe_s, sheetAt_no hz3, bnd_s, oe_n]
      · unfold fX6_copy
        rw [ltm_e, isSheet_eq, bnd_s, if_neg (zu_n0 hz), isSheet_eq, bnd_s, if_pos hz3]
    · have ho4 : o < 4 := by omega
      have hio : inb (nI o) 4 := inb_nI ho4 (by omega)
      have g : ∀ v j, j < 4 → up2 μ 0 6 v (22 + 1 + j) = μ (22 + 1 + j) := fun v j _ => up2_n _ _ _ (by omega)
      have g4 : ∀ v j, up2 μ 0 6 v (22 + 1 + j + 4) = μ (22 + 1 + j + 4) := fun v j => up2_n _ _ _ (by omega)
      have g32 : ∀ v w, up2 (up2 μ 0 6 v) 31 0 w 32 = μ 32 := fun v w => (up2_n _ _ _ (by decide)).trans (up2_n _ _ _ (by decide))
      have g33 : ∀ v w, up2 (up2 μ 0 6 v) 31 0 w 33 = μ 33 := fun v w => (up2_n _ _ _ (by decide)).trans (up2_n _ _ _ (by decide))
      have pre5 : ∀ r, fX3_faultOfCopy (22 + 1 + k) x2 (22 + 1 + o) x4 x5 (up2 μ 0 6 0) = some (r, up2 μ 0 6 0) → ¬ r = 0 → fX5_copy (nI k) x2 (nI o) x4 x5 μ = some (-10 - r, up2 μ 0 6 r) := by
        intro r hr h0
        unfold fX5_copy
        rw [ltm_e, sheetAt_yes hk4 hz, bnd_s, oe_s, sheetAt_yes ho4 hz3, bnd_s, oe_s, hr, bnd_s, if_neg h0, failed_eq, bnd_s, upp]
      rcases (hS k hk4).1 with ⟨h1, h2⟩ | ⟨h1, h2, ⟨l, hl, ev⟩, n, hn, e3, e4⟩
      · refine ⟨-10 - 1, up2 μ 0 6 1, up2 (up2 μ 0 6 1) 31 0 1, pre5 1 ?_ (by decide), ?_, ls, wm, dm, rs, hR'.flt 1⟩
        · unfold fX3_faultOfCopy
          rw [g 0 k hk4, if_pos h1]
        · unfold fX6_copy
          rw [ltm_e, isSheet_eq, bnd_s, if_neg (zu_n0 hz), isSheet_eq, bnd_s, if_neg (zu_n0 hz3), if_pos hi, cl_nI (by omega), g32, if_pos h2, fails_eq, bnd_s, upp]
      · have ne : ¬ μ 32 k = -9 := by rw [h2, ev]; exact enO_ne (by omega)
        have n1 : ¬ μ (22 + 1 + k) 1 = 0 := by rw [h1]; decide
        rcases (hS o ho4).1 with ⟨o1, o2⟩ | ⟨o1, o2, ⟨lo, hlo, evo⟩, no, hno, eo3, eo4⟩
        · refine ⟨-10 - 1, up2 μ 0 6 1, up2 (up2 μ 0 6 1) 31 0 1, pre5 1 ?_ (by decide), ?_, ls, wm, dm, rs, hR'.flt 1⟩
          · unfold fX3_faultOfCopy
            rw [g 0 k hk4, if_neg n1, g 0 o ho4, if_pos o1]
          · unfold fX6_copy
            rw [ltm_e, isSheet_eq, bnd_s, if_neg (zu_n0 hz), isSheet_eq, bnd_s, if_neg (zu_n0 hz3), if_pos hi, cl_nI (by omega), g32, if_neg ne, if_pos hio, cl_nI (by omega), if_pos o2, fails_eq, bnd_s, upp]
        · have neo : ¬ μ 32 o = -9 := by rw [o2, evo]; exact enO_ne (by omega)
          have no1 : ¬ μ (22 + 1 + o) 1 = 0 := by rw [o1]; decide
          by_cases hla : μ (22 + 1 + k) 2 = μ (22 + 1 + o) 2
          · have hla6 : μ 32 k = μ 32 o := by rw [h2, o2]; exact hla
            have f1 : fX3_faultOfCells (22 + 1 + k) x2 x5 (up2 μ 0 6 0) = some (if cellsOk n x2 x5 then 0 else 3, up2 μ 0 6 0) := foc_eq (by rw [g 0 k hk4]; exact n1) (by rw [g 0 k hk4]; exact e3)
            have f2 : fX3_faultOfCells (22 + 1 + o) x4 x5 (up2 μ 0 6 0) = some (if cellsOk no x4 x5 then 0 else 3, up2 μ 0 6 0) := foc_eq (by rw [g 0 o ho4]; exact no1) (by rw [g 0 o ho4]; exact eo3)
            have ffc : fX3_faultOfCopy (22 + 1 + k) x2 (22 + 1 + o) x4 x5 (up2 μ 0 6 0) = some (if cellsOk n x2 x5 = true ∧ cellsOk no x4 x5 = true then 0 else 3, up2 μ 0 6 0) := by
              unfold fX3_faultOfCopy
              rw [g 0 k hk4, if_neg n1, g 0 o ho4, if_neg no1, if_pos hla, f1, bnd_s]
              by_cases c1 : cellsOk n x2 x5 = true
              · rw [if_pos c1, if_pos rfl, f2, bnd_s]
                by_cases c2 : cellsOk no x4 x5 = true
                · rw [if_pos c2, if_pos ⟨c1, c2⟩]
                · rw [if_neg c2, if_neg (fun z => c2 z.2)]
              · rw [if_neg c1, if_neg (by decide), if_neg (fun z => c1 z.1)]
            have pre6 : ∀ ν, ν 32 = μ 32 → ν 33 = μ 33 → fX6_copy (nI k) x2 (nI o) x4 x5 ν = (fun μ_5 => (if x2 < 0 then bnd (fX6_fails (3 : Int32) μ_5) (fun r_13 μ_11 => some (r_13, μ_11)) else (if x4 < 0 then bnd (fX6_fails (3 : Int32) μ_5) (fun r_16 μ_14 => some (r_16, μ_14)) else (if x5 < 0 then bnd (fX6_fails (3 : Int32) μ_5) (fun r_19 μ_17 => some (r_19, μ_17)) else (if nI n < x2 then bnd (fX6_fails (3 : Int32) μ_5) (fun r_22 μ_20 => some (r_22, μ_20)) else (if nI no < x4 then bnd (fX6_fails (3 : Int32) μ_5) (fun r_25 μ_23 => some (r_25, μ_23)) else (if (nI n - x2) < x5 then bnd (fX6_fails (3 : Int32) μ_5) (fun r_28 μ_26 => some (r_28, μ_26)) else (if x5 ≤ (nI no - x4) then (if x4 ≤ x2 then fX6_copy_L166 (nI k) x2 (nI o) x4 x5 (0 : Int32) FU (0 : Int32) μ_5 else fX6_copy_L166 (nI k) x2 (nI o) x4 x5 (1 : Int32) FU (0 : Int32) μ_5) else bnd (fX6_fails (3 : Int32) μ_5) (fun r_31 μ_29 => some (r_31, μ_29)))))))))) (up2 ν 31 0 0) := by
              intro ν h32 h33
              have q32 : up2 ν 31 0 0 32 = μ 32 := (up2_n _ _ _ (by decide)).trans h32
              have q33 : up2 ν 31 0 0 33 = μ 33 := (up2_n _ _ _ (by decide)).trans h33
              unfold fX6_copy
              rw [ltm_e, isSheet_eq, bnd_s, if_neg (zu_n0 hz), isSheet_eq, bnd_s, if_neg (zu_n0 hz3), if_pos hi, cl_nI (by omega), q32, if_neg ne, if_pos hio, cl_nI (by omega), if_neg neo, if_pos hi, if_pos hio, if_pos hla6]
              simp only [if_pos hi, if_pos hio, q33, e4, eo4]
            by_cases hc : cellsOk n x2 x5 = true ∧ cellsOk no x4 x5 = true
            · obtain ⟨i, m, rfl, rfl, him⟩ := cells_nat hn hc.1
              obtain ⟨j, m', rfl, em, hjm⟩ := cells_nat hno hc.2
              have emm : m' = m := by
                have hb1 : m < 2 ^ 31 := by omega
                have hb2 : m' < 2 ^ 31 := by omega
                exact ((nI_eq hb1 hb2).mp em).symm
              subst emm
              let μ1 : Mem := upR (up2 μ 0 6 0) (22 + 1 + o + 4) (va_cpy (up2 μ 0 6 0 (22 + 1 + k + 4)) (up2 μ 0 6 0 (22 + 1 + o + 4)) i j m')
              have hμ1 : ∀ c, c ≠ 22 + 1 + o + 4 → μ1 c = up2 μ 0 6 0 c := fun c hc => upR_n _ _ hc
              have hah : ∃ ah : Bool, (if ah then i < j else j ≤ i) ∧ ah = decide (i < j) := ⟨decide (i < j), by by_cases q : i < j <;> simp [q] <;> omega, rfl⟩
              obtain ⟨ah, hah1, hah2⟩ := hah
              obtain ⟨μ2, c1, c2, c3⟩ := X6_copy_L (i := i) (j := j) (n := m') hk4 ho4 (by omega) (by omega) ah hah1 (μ0 := up2 μ1 31 0 0) m' FU 0 (up2 μ1 31 0 0) (by omega) (by show _ < 1000; omega) (fun y hy => by
                cases ah with
                | true => simp only [if_true]; rw [if_neg (by omega)]
                | false => simp only [Bool.false_eq_true, if_false]; rw [if_neg (by omega)])
              refine ⟨nI m', μ1, μ2, ?_, ?_, ls, wm, dm, rs, ?_⟩
              · unfold fX5_copy
                rw [ltm_e, sheetAt_yes hk4 hz, bnd_s, oe_s, sheetAt_yes ho4 hz3, bnd_s, oe_s, ffc, bnd_s, if_pos hc, if_pos rfl, if_pos (show cpk (nI i) (nI j) (nI m') from ⟨nI_pos (by omega), nI_pos (by omega), nI_pos (by omega), by rw [cl_nI (by omega), cl_nI (by omega)]; omega, by rw [cl_nI (by omega), cl_nI (by omega)]; omega⟩), ltm_e, cl_nI (by omega), cl_nI (by omega), cl_nI (by omega)]
              · have hμ32 : μ1 32 = μ 32 := by rw [hμ1 32 (by omega), up2_n _ _ _ (by decide)]
                have hμ33 : μ1 33 = μ 33 := by rw [hμ1 33 (by omega), up2_n _ _ _ (by decide)]
                rw [pre6 μ1 hμ32 hμ33]
                dsimp only
                rw [if_neg (nI_pos (by omega)), if_neg (nI_pos (by omega)), if_neg (nI_pos (by omega)), if_neg (fun z => absurd ((lt_nI (by omega) (by omega)).mp z) (by omega)), if_neg (fun z => absurd ((lt_nI (by omega) (by omega)).mp z) (by omega)), pk_sub (by omega), pk_sub (by omega), if_neg (fun z => absurd ((lt_nI (by omega) (by omega)).mp z) (by omega)), if_pos ((le_nI (by omega) (by omega)).mpr (by omega))]
                by_cases hji : j ≤ i
                · have : ah = false := by rw [hah2]; exact decide_eq_false (by omega)
                  subst this
                  rw [if_pos ((le_nI (by omega) (by omega)).mpr hji)]
                  exact c1
                · have : ah = true := by rw [hah2]; exact decide_eq_true (by omega)
                  subst this
                  rw [if_neg (fun z => hji ((le_nI (by omega) (by omega)).mp z))]
                  exact c1
              · have m34 : up2 μ1 31 0 0 34 = μ 34 := by rw [up2_n _ _ _ (by decide), hμ1 34 (by omega), up2_n _ _ _ (by decide)]
                have cc : ∀ c, c ≠ 34 → c ≠ 31 → c ≠ 22 + 1 + o + 4 → c ≠ 0 → μ2 c = μ c := fun c h1 h2 h3 h4 => by rw [c3 c h1, up2_n _ _ _ h2, hμ1 c h3, up2_n _ _ _ h4]
                refine hR'.sh (hS.one ho4 ⟨Or.inr ⟨?_, ?_, ⟨lo, hlo, ?_⟩, no, hno, ?_, ?_⟩, fun y hy => ?_⟩ (fun q hq hne => ⟨?_, ?_, ?_, ?_, fun y hy => ?_⟩)) (fun c h1 h2 h3 h4 => ?_) (fun f hf => ?_) ?_ ?_
                · rw [cc _ (by omega) (by omega) (by omega) (by omega)]; exact o1
                · rw [cc 32 (by omega) (by omega) (by omega) (by omega), cc _ (by omega) (by omega) (by omega) (by omega)]; exact o2
                · rw [cc _ (by omega) (by omega) (by omega) (by omega)]; exact evo
                · rw [cc _ (by omega) (by omega) (by omega) (by omega)]; exact eo3
                · rw [cc 33 (by omega) (by omega) (by omega) (by omega)]; exact eo4
                · rw [c3 _ (by omega), up2_n _ _ _ (by omega), c2 _ (by omega), m34]
                  show upR _ (22 + 1 + o + 4) _ (22 + 1 + o + 4) y = _
                  rw [upR_s]
                  unfold va_cpy
                  rw [g4, g4]
                  by_cases hin : j ≤ y ∧ y < j + m'
                  · rw [if_pos hin, if_pos (by omega), (hS k hk4).2 _ (by omega)]
                    congr 1
                    omega
                  · rw [if_neg hin, if_neg (by omega), (hS o ho4).2 y hy]
                · exact cc _ (by omega) (by omega) (by omega) (by omega)
                · exact cc _ (by omega) (by omega) (by omega) (by omega)
                · rw [cc 32 (by omega) (by omega) (by omega) (by omega)]
                · rw [cc 33 (by omega) (by omega) (by omega) (by omega)]
                · rw [c2 _ (by omega), m34, if_neg (by omega)]
                · exact cc c (by omega) h2 (by omega) h1
                · rw [c3 31 (by decide), up2_kn _ _ hf, hμ1 31 (by omega), up2_n _ _ _ (by decide)]
                · rw [c3 0 (by decide), up2_n _ _ _ (by decide), hμ1 0 (by omega), up2_kn _ _ (by decide)]
                · rw [c3 0 (by decide), up2_n _ _ _ (by decide), hμ1 0 (by omega), up2_ks, c3 31 (by decide), up2_ks]
            · refine ⟨-10 - 3, up2 μ 0 6 3, up2 (up2 μ 0 6 3) 31 0 3, pre5 3 (by rw [ffc, if_neg hc]) (by decide), ?_, ls, wm, dm, rs, hR'.flt 3⟩
              have qf : bnd (fX6_fails (3 : Int32) (up2 (up2 μ 0 6 3) 31 0 0)) (fun r μ_11 => some (r, μ_11)) = some (-10 - 3, up2 (up2 μ 0 6 3) 31 0 3) := by rw [fails_eq, bnd_s, upp]
              rw [pre6 _ (up2_n _ _ _ (by decide)) (up2_n _ _ _ (by decide))]
              dsimp only
              rw [qf]
              by_cases a1 : x2 < 0
              · rw [if_pos a1]
              · rw [if_neg a1]
                by_cases a2 : x4 < 0
                · rw [if_pos a2]
                · rw [if_neg a2]
                  by_cases a3 : x5 < 0
                  · rw [if_pos a3]
                  · rw [if_neg a3]
                    by_cases a4 : nI n < x2
                    · rw [if_pos a4]
                    · rw [if_neg a4]
                      by_cases a5 : nI no < x4
                      · rw [if_pos a5]
                      · rw [if_neg a5]
                        by_cases a6 : nI n - x2 < x5
                        · rw [if_pos a6]
                        · rw [if_neg a6]
                          by_cases a7 : x5 ≤ nI no - x4
                          · exfalso
                            apply hc
                            have a8 : ¬ nI no - x4 < x5 := fun z => by
                              have h1 := Int32.le_iff_toInt_le.mp a7
                              have h2 := Int32.lt_iff_toInt_lt.mp z
                              omega
                            constructor
                            · exact Classical.byContradiction (fun z => by rcases cells_no z with q | q | q | q <;> contradiction)
                            · exact Classical.byContradiction (fun z => by rcases cells_no z with q | q | q | q <;> contradiction)
                          · rw [if_neg a7]
          · have hla6 : ¬ μ 32 k = μ 32 o := by rw [h2, o2]; exact hla
            refine ⟨-10 - 2, up2 μ 0 6 2, up2 (up2 μ 0 6 2) 31 0 2, pre5 2 ?_ (by decide), ?_, ls, wm, dm, rs, hR'.flt 2⟩
            · unfold fX3_faultOfCopy
              rw [g 0 k hk4, if_neg n1, g 0 o ho4, if_neg no1, if_neg hla]
            · unfold fX6_copy
              rw [ltm_e, isSheet_eq, bnd_s, if_neg (zu_n0 hz), isSheet_eq, bnd_s, if_neg (zu_n0 hz3), if_pos hi, cl_nI (by omega), g32, if_neg ne, if_pos hio, cl_nI (by omega), if_neg neo, if_pos hi, if_pos hio, if_neg hla6, fails_eq, bnd_s, upp]
