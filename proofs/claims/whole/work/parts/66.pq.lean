/-! PURE: the call days -/
theorem Jk.up31 {μa μ1 : Mem} (h : FrW μa μ1 9) (v : Int32) : Jk (up2 μa 31 0 v) (up2 μ1 31 0 v) := by
  refine ⟨fun i hi => ?_, fun f _ => ?_⟩
  · rw [up2_n _ _ _ (by omega), up2_n _ _ _ (by omega)]
    exact h i (by omega)
  · rw [up2_s, up2_s, h 31 (by omega)]
theorem against_null {μ : Mem} {k : Nat} {x2 x3 x4 : Int32} (hk : k < 4) (h : μ 32 k = -9) : fX6_against (nI k) x2 x3 x4 μ = some (1, μ) := by
  have hi : inb (nI k) 4 := inb_nI hk (by omega)
  unfold fX6_against
  rw [if_pos hi, cl_nI (by omega), if_pos h, if_pos hi, if_pos h]
theorem against_cast {μ : Mem} {k : Nat} {x2 x3 x4 : Int32} (hk : k < 4) (h : ¬ μ 32 k = -9) (h2 : ¬ μ 32 k = x2) : fX6_against (nI k) x2 x3 x4 μ = some (2, μ) := by
  have hi : inb (nI k) 4 := inb_nI hk (by omega)
  unfold fX6_against
  rw [if_pos hi, cl_nI (by omega), if_neg h, if_pos hi, if_neg h2]
theorem against_eq {μ : Mem} {k len m : Nat} {x2 x3 : Int32} (hk : k < 4) (h : ¬ μ 32 k = -9) (h2 : μ 32 k = x2) (h3 : μ 33 k = nI len) (hm : m < 2 ^ 31) : fX6_against (nI k) x2 x3 (nI m) μ = some (if cellsOk len x3 (nI m) then 0 else 3, μ) := by
  have hi : inb (nI k) 4 := inb_nI hk (by omega)
  unfold fX6_against
  rw [if_pos hi, cl_nI (by omega), if_neg h, if_pos hi, if_pos h2, if_pos hi, if_neg h, if_pos (show (0 : Int32) ≤ nI m from (le_nI (a := 0) (by omega) hm).mpr (by omega)), if_pos hi, if_pos hi, h3]
  by_cases c : cellsOk len x3 (nI m) = true
  · have c' := c
    unfold cellsOk at c'
    simp only [Bool.and_eq_true, Bool.not_eq_true', decide_eq_false_iff_not] at c'
    obtain ⟨⟨⟨a, b⟩, -⟩, d⟩ := c'
    rw [if_pos c, if_neg a, if_neg b, if_pos (by
      rw [Int32.le_iff_toInt_le]
      rw [Int32.lt_iff_toInt_lt] at d
      omega)]
  · rw [if_neg c]
    rcases cells_no c with q | q | q | q
    · rw [if_pos q]
    · by_cases a : x3 < 0
      · rw [if_pos a]
      · rw [if_neg a, if_pos q]
    · exact absurd q (nI_pos hm)
    · by_cases a : x3 < 0
      · rw [if_pos a]
      · rw [if_neg a]
        by_cases b : nI len < x3
        · rw [if_pos b]
        · rw [if_neg b, if_neg (by
            rw [Int32.le_iff_toInt_le]
            rw [Int32.lt_iff_toInt_lt] at q
            omega)]
theorem op_days (x1 x2 x3 x4 x5 : Int32) : St (fX5_days x1 x2 x3 x4 x5) (fX6_days x1 x2 x3 x4 x5) := by
  rintro μ ⟨ls, wm, dm, rs, hR⟩
  have hR' := hR
  have hf0 := hR.flt 0
  obtain ⟨⟨hW, hM, hok⟩, -, hS, -, hfl⟩ := hR
  have h6 := hW.1
  rcases zu_3 x1 with hz | ⟨hz, k, hk, rfl⟩
  · refine ⟨-1, up2 μ 0 6 0, up2 (up2 μ 0 6 0) 31 0 0, ?_, ?_, ls, wm, dm, rs, hf0⟩
    · unfold fX5_days
      rw [ltm_e, sheetAt_no hz, bnd_s, oe_n]
    · unfold fX6_days
      rw [ltm_e, isSheet_eq, bnd_s, if_pos hz]
  · have hk4 : k < 4 := by omega
    have g : ∀ v, up2 μ 0 6 v (22 + 1 + k) = μ (22 + 1 + k) := fun v => up2_n _ _ _ (by omega)
    have g4 : ∀ v, up2 μ 0 6 v (22 + 1 + k + 4) = μ (22 + 1 + k + 4) := fun v => up2_n _ _ _ (by omega)
    by_cases hy : zu x2 2 = 0
    · refine ⟨-2, up2 μ 0 6 0, up2 (up2 μ 0 6 0) 31 0 0, ?_, ?_, ls, wm, dm, rs, hf0⟩
      · unfold fX5_days
        rw [ltm_e, sheetAt_yes hk4 hz, bnd_s, oe_s, isUpTo_eq, bnd_s, if_pos hy]
      · unfold fX6_days
        rw [ltm_e, isSheet_eq, bnd_s, if_neg (zu_n0 hz), isSort_eq, bnd_s, if_pos hy]
    · rcases zu_20 x4 with h4 | ⟨h4, n, hn, rfl⟩
      · refine ⟨-2, up2 μ 0 6 0, up2 (up2 μ 0 6 0) 31 0 0, ?_, ?_, ls, wm, dm, rs, hf0⟩
        · unfold fX5_days
          rw [ltm_e, sheetAt_yes hk4 hz, bnd_s, oe_s, isUpTo_eq, bnd_s, if_neg hy, isUpTo_eq, bnd_s, if_pos h4]
        · unfold fX6_days
          rw [ltm_e, isSheet_eq, bnd_s, if_neg (zu_n0 hz), isSort_eq, bnd_s, if_neg hy, within_eq, bnd_s, if_pos h4]
      · rcases zu_4 x5 with h5 | ⟨h5, w, hw, rfl⟩
        · refine ⟨-2, up2 μ 0 6 0, up2 (up2 μ 0 6 0) 31 0 0, ?_, ?_, ls, wm, dm, rs, hf0⟩
          · unfold fX5_days
            rw [ltm_e, sheetAt_yes hk4 hz, bnd_s, oe_s, isUpTo_eq, bnd_s, if_neg hy, isUpTo_eq, bnd_s, if_neg (zu_n0 h4), isUpTo_eq, bnd_s, if_pos h5]
          · unfold fX6_days
            rw [ltm_e, isSheet_eq, bnd_s, if_neg (zu_n0 hz), isSort_eq, bnd_s, if_neg hy, within_eq, bnd_s, if_neg (zu_n0 h4), within_eq, bnd_s, if_pos h5]
        · have e2n : (2 : Int32) * nI n = nI (2 * n) := pk_mul 2 n
          have pre5 : fX5_days (nI k) x2 x3 (nI n) (nI w) μ = (fun μ_14 => bnd (fX3_faultAsLane (22 + 1 + k) x2 μ_14) (fun r_19 μ_17 => (if r_19 = 0 then bnd (fX3_faultOfCells (22 + 1 + k) x3 (nI (2 * n)) μ_17) (fun r_34 μ_32 => (if r_34 = 0 then bnd (fX4_stands 1 μ_32) (fun r_37 μ_35 => (if r_37 = 0 then some ((-3 : Int32), μ_35) else bnd (fX5_areActs (22 + 1 + k) x3 (nI n) μ_35) (fun r_40 μ_38 => (if r_40 = 0 then some ((-2 : Int32), μ_38) else bnd (fX5_afterDays (22 + 1 + k) x3 (nI n) (nI w) μ_38) (fun r_43 μ_41 => some (r_43, μ_41)))))) else bnd (fX5_failed r_34 μ_32) (fun r_46 μ_44 => some (r_46, μ_44)))) else (if r_19 = 0 then bnd (fX4_stands 1 μ_17) (fun r_22 μ_20 => (if r_22 = 0 then some ((-3 : Int32), μ_20) else bnd (fX5_areActs (22 + 1 + k) x3 (nI n) μ_20) (fun r_25 μ_23 => (if r_25 = 0 then some ((-2 : Int32), μ_23) else bnd (fX5_afterDays (22 + 1 + k) x3 (nI n) (nI w) μ_23) (fun r_28 μ_26 => some (r_28, μ_26)))))) else bnd (fX5_failed r_19 μ_17) (fun r_31 μ_29 => some (r_31, μ_29)))))) (up2 μ 0 6 0) := by
            unfold fX5_days
            rw [ltm_e, sheetAt_yes hk4 hz, bnd_s, oe_s, isUpTo_eq, bnd_s, if_neg hy, isUpTo_eq, bnd_s, if_neg (zu_n0 h4), isUpTo_eq, bnd_s, if_neg (zu_n0 h5), e2n]
          have pre6 : ∀ ν : Mem, fX6_days (nI k) x2 x3 (nI n) (nI w) ν = bnd (fX6_against (nI k) x2 x3 (nI (2 * n)) (up2 ν 31 0 0)) (fun r_16 μ_14 => (if r_16 = 0 then (if (μ_14 31 5) = 0 then some ((-3 : Int32), μ_14) else lti (((60 : Int32) * nI k) + x3) (fun y_17 => fX6_days_L91 (nI n) (nI w) y_17 FU (0 : Int32) μ_14)) else bnd (fX6_fails r_16 μ_14) (fun r_20 μ_18 => some (r_20, μ_18)))) := by
            intro ν
            unfold fX6_days
            rw [ltm_e, isSheet_eq, bnd_s, if_neg (zu_n0 hz), isSort_eq, bnd_s, if_neg hy, within_eq, bnd_s, if_neg (zu_n0 h4), within_eq, bnd_s, if_neg (zu_n0 h5), e2n]
          dsimp only at pre5
          have g32 : ∀ v w, up2 (up2 μ 0 6 v) 31 0 w 32 = μ 32 := fun v w => (up2_n _ _ _ (by decide)).trans (up2_n _ _ _ (by decide))
          have g33 : ∀ v w, up2 (up2 μ 0 6 v) 31 0 w 33 = μ 33 := fun v w => (up2_n _ _ _ (by decide)).trans (up2_n _ _ _ (by decide))
          rcases (hS k hk4).1 with ⟨h1, h2⟩ | ⟨h1, h2, ⟨l, hl, ev⟩, len, hlen, e3, e4⟩
          · refine ⟨-10 - 1, up2 μ 0 6 1, up2 (up2 μ 0 6 1) 31 0 1, ?_, ?_, ls, wm, dm, rs, hR'.flt 1⟩
            · rw [pre5]
              unfold fX3_faultAsLane
              rw [g, if_pos h1, bnd_s, if_neg (by decide), if_neg (by decide), failed_eq, bnd_s, upp]
            · rw [pre6, against_null hk4 (by rw [g32]; exact h2), bnd_s, if_neg (by decide), fails_eq, bnd_s, upp]
          · have ne : ¬ μ 32 k = -9 := by rw [h2, ev]; exact enO_ne (by omega)
            have n1 : ¬ μ (22 + 1 + k) 1 = 0 := by rw [h1]; decide
            by_cases hla : μ (22 + 1 + k) 2 = x2
            · have hla6 : μ 32 k = x2 := h2.trans hla
              have f1 : fX3_faultOfCells (22 + 1 + k) x3 (nI (2 * n)) (up2 μ 0 6 0) = some (if cellsOk len x3 (nI (2 * n)) then 0 else 3, up2 μ 0 6 0) := foc_eq (by rw [g]; exact n1) (by rw [g]; exact e3)
              have l5 : fX3_faultAsLane (22 + 1 + k) x2 (up2 μ 0 6 0) = some (0, up2 μ 0 6 0) := by
                unfold fX3_faultAsLane
                rw [g, if_neg n1, if_pos hla]
              by_cases hc : cellsOk len x3 (nI (2 * n)) = true
              · obtain ⟨i, m, rfl, em, him⟩ := cells_nat hlen hc
                have emm : m = 2 * n := by
                  have hb1 : m < 2 ^ 31 := by omega
                  exact ((nI_eq (by omega) hb1).mp em).symm
                subst emm
                have hs := stands_eq (hW.c0 6 0)
                by_cases h0 : ls.length = 0
                · refine ⟨-3, up2 μ 0 6 0, up2 (up2 μ 0 6 0) 31 0 0, ?_, ?_, ls, wm, dm, rs, hf0⟩
                  · rw [pre5, l5, bnd_s, if_pos rfl, f1, bnd_s, if_pos hc, if_pos rfl, hs, bnd_s, if_pos (by simp [h0, zo])]
                  · rw [pre6, against_eq hk4 (by rw [g32]; exact ne) (by rw [g32]; exact hla6) (by rw [g33]; exact e4) (by omega), bnd_s, if_pos hc, if_pos rfl, if_pos (by rw [hf0.1.2.1.2.1]; exact (zero_iff (by omega)).mpr h0)]
                · let P : Nat → Int32 × Int32 := fun q => (μ 34 (60 * k + i + 2 * q), μ 34 (60 * k + i + 2 * q + 1))
                  have hP5 : ∀ q, q < n → (up2 μ 0 6 0 (22 + 1 + k + 4) (i + 2 * q), up2 μ 0 6 0 (22 + 1 + k + 4) (i + 2 * q + 1)) = P q := fun q hq => by
                    rw [g4, (hS k hk4).2 _ (by omega), (hS k hk4).2 _ (by omega)]
                    show _ = (μ 34 (60 * k + i + 2 * q), μ 34 (60 * k + i + 2 * q + 1))
                    rw [show 60 * k + (i + 2 * q) = 60 * k + i + 2 * q by omega, show 60 * k + (i + 2 * q + 1) = 60 * k + i + 2 * q + 1 by omega]
                  have g3 : up2 μ 0 6 0 (22 + 1 + k) 3 = nI len := by rw [g]; exact e3
                  have ar := X5_areActs_L (P := P) g3 hlen him hP5 n FU 0 (by omega) (by show _ < 1000; omega)
                  have ar5 : fX5_areActs (22 + 1 + k) (nI i) (nI n) (up2 μ 0 6 0) = _ := ar
                  have e60 : (60 : Int32) * nI k + nI i = nI (60 * k + i) := by rw [show (60 : Int32) = nI 60 from rfl, pk_mul, nI_add]
                  have hs1 : ¬ zo (decide (0 < ls.length)) = 0 := by
                    have : 0 < ls.length := by omega
                    simp [this, zo]
                  cases hall : (List.range' 0 n).all (fun q => !decide (iaF (P q).1 (P q).2 = 0)) with
                  | false =>
                    rw [hall] at ar5
                    refine ⟨-2, up2 μ 0 6 0, up2 (up2 μ 0 6 0) 31 0 0, ?_, ?_, ls, wm, dm, rs, hf0⟩
                    · rw [pre5, l5, bnd_s, if_pos rfl, f1, bnd_s, if_pos hc, if_pos rfl, hs, bnd_s, if_neg hs1, ar5, bnd_s, if_pos (show zo false = 0 from rfl)]
                    · rw [pre6, against_eq hk4 (by rw [g32]; exact ne) (by rw [g32]; exact hla6) (by rw [g33]; exact e4) (by omega), bnd_s, if_pos hc, if_pos rfl, if_neg (by rw [hf0.1.2.1.2.1]; exact fun z => h0 ((zero_iff (by omega)).mp z)), lti_e, e60]
                      exact X6_daysNo_L (P := P) (by omega) hn (fun q hq => by
                        rw [show up2 (up2 μ 0 6 0) 31 0 0 34 = μ 34 from (up2_n _ _ _ (by decide)).trans (up2_n _ _ _ (by decide))]) n FU 0 (by omega) (by show _ < 1000; omega) hall
                  | true =>
                    rw [hall] at ar5
                    have hA : ∀ q, q < n → ¬ iaF (P q).1 (P q).2 = 0 := fun q hq z => by
                      have := (List.all_eq_true.mp hall) q (by rw [List.mem_range'_1]; omega)
                      rw [decide_eq_true z] at this
                      exact absurd this (by decide)
                    obtain ⟨μb, b1, b2, b3⟩ := X4_become (hW.c0 6 0)
                    obtain ⟨μ1, a1, a2⟩ := X5_after_L (P := P) (w := w) hk4 hw hlen him (fun q hq => iaF_ok (hA q hq)) (μ0 := up2 μ 0 6 0) g3 hP5 n FU 0 0 (ls, wm, dm) μb (by omega) (by show _ < 1000; omega) hok b2 b3
                    have hj := Jk.up31 a2 0
                    have hR1 := hf0.jk hj
                    have q34 : up2 μ1 31 0 0 34 = μ 34 := by rw [up2_n _ _ _ (by decide), a2 34 (by omega), up2_n _ _ _ (by decide)]
                    have q32 : up2 μ1 31 0 0 32 = μ 32 := by rw [up2_n _ _ _ (by decide), a2 32 (by omega), up2_n _ _ _ (by decide)]
                    have q33 : up2 μ1 31 0 0 33 = μ 33 := by rw [up2_n _ _ _ (by decide), a2 33 (by omega), up2_n _ _ _ (by decide)]
                    obtain ⟨μ2, c1, c2, c3⟩ := X6_days_L (P := P) (b := 60 * k + i) (n := n) (w := w) (μ := up2 μ1 31 0 0) (by omega) hw hn hR1.1.2.1 hok (fun q hq => by rw [q34]) hA n FU 0 (by omega) (by show _ < 1000; omega)
                    refine ⟨dyF w (goD P n 0 (ls, wm, dm) 0), μ1, μ2, ?_, ?_, ls, wm, dm, rs, ?_⟩
                    · rw [pre5, l5, bnd_s, if_pos rfl, f1, bnd_s, if_pos hc, if_pos rfl, hs, bnd_s, if_neg hs1, ar5, bnd_s, if_neg (show ¬ zo true = 0 from by decide)]
                      unfold fX5_afterDays
                      rw [b1, bnd_s]
                      rw [show (0 : Int32) = nI 0 from rfl] at *
                      rw [a1, bnd_s]
                    · rw [pre6, against_eq hk4 (by rw [q32]; exact ne) (by rw [q32]; exact hla6) (by rw [q33]; exact e4) (by omega), bnd_s, if_pos hc, if_pos rfl, if_neg (by rw [hR1.1.2.1.2.1]; exact fun z => h0 ((zero_iff (by omega)).mp z)), lti_e, e60]
                      exact c1
                    · refine hR1.wall (hR1.1.1.fr (fun i h1 h2 => c3.1 i (by omega) (by simp; omega))) c2 hok (fun i hi => c3.1 i (by omega) (by simp; omega)) (c3.2 0 (by decide)) (c3.2 1 (by decide)) (c3.2 22 (by decide))
              · refine ⟨-10 - 3, up2 μ 0 6 3, up2 (up2 μ 0 6 3) 31 0 3, ?_, ?_, ls, wm, dm, rs, hR'.flt 3⟩
                · rw [pre5, l5, bnd_s, if_pos rfl, f1, bnd_s, if_neg hc, if_neg (by decide), failed_eq, bnd_s, upp]
                · rw [pre6, against_eq hk4 (by rw [g32]; exact ne) (by rw [g32]; exact hla6) (by rw [g33]; exact e4) (by omega), bnd_s, if_neg hc, if_neg (by decide), fails_eq, bnd_s, upp]
            · have hla6 : ¬ μ 32 k = x2 := fun q => hla (h2.symm.trans q)
              refine ⟨-10 - 2, up2 μ 0 6 2, up2 (up2 μ 0 6 2) 31 0 2, ?_, ?_, ls, wm, dm, rs, hR'.flt 2⟩
              · rw [pre5]
                unfold fX3_faultAsLane
                rw [g, if_neg n1, if_neg hla, bnd_s, if_neg (by decide), if_neg (by decide), failed_eq, bnd_s, upp]
              · rw [pre6, against_cast hk4 (by rw [g32]; exact ne) (by rw [g32]; exact hla6), bnd_s, if_neg (by decide), fails_eq, bnd_s, upp]
