/-! PURE: the call wall -/
def Rd3 (μ : Mem) (ls : List LT) : Prop := ∀ j, j < ls.length → (μ 38 (3 * j), μ 38 (3 * j + 1), μ 38 (3 * j + 2)) = lyr ls j
theorem X6_take_L {ls : List LT} : ∀ (m fuel k : Nat) (μ : Mem), k + m = ls.length → ls.length ≤ 6 → m < fuel → Rd3 μ ls → μ 31 5 = nI ls.length → (∀ j, j < k → tm μ j = lyr ls j) →
    ∃ μ', fX6_takeWall_L26 fuel (nI k) μ = some ((), μ') ∧ (∀ j, j < ls.length → tm μ' j = lyr ls j) ∧ μ' 31 22 = 0 ∧ Ex [35, 36, 37] [22] μ μ' := by
  intro m
  induction m with
  | zero =>
    intro fuel k μ hk h6 hf hK h5 hj
    obtain ⟨fuel, rfl⟩ : ∃ f, fuel = f + 1 := ⟨fuel - 1, by omega⟩
    refine ⟨up2 μ 31 22 0, ?_, fun j h => ?_, up2_ks _ _ _ _, Ex.up _ _ (Or.inr ⟨rfl, by decide⟩)⟩
    · show sX6_takeWall_L26 (fX6_takeWall_L26 fuel) (nI k) μ = _
      unfold sX6_takeWall_L26
      rw [h5, if_pos ((le_nI (by omega) (by omega)).mpr (by omega)), ltm_e]
    · unfold tm
      rw [up2_n _ _ _ (show 35 ≠ 31 by decide), up2_n _ _ _ (show 36 ≠ 31 by decide), up2_n _ _ _ (show 37 ≠ 31 by decide)]
      exact hj j (by omega)
  | succ m ih =>
    intro fuel k μ hk h6 hf hK h5 hj
    obtain ⟨fuel, rfl⟩ : ∃ f, fuel = f + 1 := ⟨fuel - 1, by omega⟩
    show ∃ μ', sX6_takeWall_L26 (fX6_takeWall_L26 fuel) (nI k) μ = _ ∧ _
    unfold sX6_takeWall_L26
    have i6 : inb (nI k) 6 := inb_nI (by omega) (by omega)
    rw [h5, if_neg (fun z => absurd ((le_nI (by omega) (by omega)).mp z) (by omega)), show (3 : Int32) * nI k = nI (3 * k) from pk_mul 3 k, show nI (3 * k) + (1 : Int32) = nI (3 * k + 1) from nI_add (3 * k) 1, show nI (3 * k) + (2 : Int32) = nI (3 * k + 2) from nI_add (3 * k) 2, if_pos (inb_nI (j := 3 * k) (by omega) (by omega)), if_pos i6, ltm_e, if_pos (inb_nI (j := 3 * k + 1) (by omega) (by omega)), if_pos i6, ltm_e, if_pos (inb_nI (j := 3 * k + 2) (by omega) (by omega)), if_pos i6, ltm_e, lti_e, nI_1, cl_nI (j := k) (by omega), cl_nI (j := 3 * k) (by omega), cl_nI (j := 3 * k + 1) (by omega), cl_nI (j := 3 * k + 2) (by omega)]
    have q := hK k (by omega)
    have q0 : μ 38 (3 * k) = (lyr ls k).1 := congrArg Prod.fst q
    have q1 : μ 38 (3 * k + 1) = (lyr ls k).2.1 := congrArg (fun t => t.2.1) q
    have q2 : μ 38 (3 * k + 2) = (lyr ls k).2.2 := congrArg (fun t => t.2.2) q
    rw [q0, show up2 μ 35 k (lyr ls k).1 38 = μ 38 from up2_n _ _ _ (by decide), q1, show up2 (up2 μ 35 k (lyr ls k).1) 36 k (lyr ls k).2.1 38 = μ 38 from (up2_n _ _ _ (by decide)).trans (up2_n _ _ _ (by decide)), q2]
    have x := mp3_ex μ k (lyr ls k)
    obtain ⟨μ', e1, e2, e2', e3⟩ := ih fuel (k + 1) (mp3 μ k (lyr ls k)) (by omega) h6 (by omega) (fun j h => by rw [x.1 38 (by decide) (by decide)]; exact hK j h) ((x.2 5 (by decide)).trans h5) (fun j h => by
      rw [mp3_tm]
      by_cases hjk : j = k
      · rw [if_pos hjk, hjk]
      · rw [if_neg hjk]; exact hj j (by omega))
    exact ⟨μ', e1, e2, e2', (x.mono (fun _ h => h) (fun _ h => absurd h List.not_mem_nil)).tr e3⟩
theorem X6_takeWall {μ : Mem} {ls : List LT} {wm dm : Int32} (h12 : μ 31 12 = wm) (h13 : μ 31 13 = dm) (h14 : μ 31 14 = nI ls.length) (hK : Rd3 μ ls) (h6 : ls.length ≤ 6) : ∃ μ', fX6_takeWall μ = some ((), μ') ∧ IsM μ' ls wm dm ∧ μ' 31 22 = 0 ∧ Ex [35, 36, 37] [5, 6, 7, 22] μ μ' := by
  obtain ⟨μ', e1, e2, e2', e3⟩ := X6_take_L (ls := ls) ls.length FU 0 (up2 (up2 (up2 μ 31 6 (μ 31 12)) 31 7 (μ 31 13)) 31 5 (μ 31 14)) (by omega) h6 (by show _ < 1000; omega)
    (fun j hj => by rw [up2_n _ _ _ (show 38 ≠ 31 by decide), up2_n _ _ _ (show 38 ≠ 31 by decide), up2_n _ _ _ (show 38 ≠ 31 by decide)]; exact hK j hj)
    (by rw [up2_ks]; exact h14) (fun j hj => absurd hj (by omega))
  refine ⟨μ', ?_, ⟨h6, ?_, ?_, ?_, e2⟩, e2', ?_⟩
  · unfold fX6_takeWall
    rw [ltm_e, ltm_e, up2_kn _ _ (show 13 ≠ 6 by decide), ltm_e, up2_kn _ _ (show 14 ≠ 7 by decide), up2_kn _ _ (show 14 ≠ 6 by decide)]
    exact e1
  · rw [e3.2 5 (by decide), up2_ks]; exact h14
  · rw [e3.2 6 (by decide), up2_kn _ _ (by decide), up2_kn _ _ (by decide), up2_ks]; exact h12
  · rw [e3.2 7 (by decide), up2_kn _ _ (by decide), up2_ks]; exact h13
  · exact (((Ex.up μ _ (Or.inr ⟨rfl, by decide⟩)).tr (Ex.up _ _ (Or.inr ⟨rfl, by decide⟩))).tr (Ex.up _ _ (Or.inr ⟨rfl, by decide⟩))).tr (e3.mono (fun _ h => h) (by decide))
def lys (T : Nat → Int32) (L : Nat) : List LT := (List.range L).map (lay T)
theorem lys_len (T : Nat → Int32) (L : Nat) : (lys T L).length = L := by
  unfold lys
  rw [List.length_map, List.length_range]
theorem lys_succ (T : Nat → Int32) (L : Nat) : lys T (L + 1) = lys T L ++ [lay T L] := by
  unfold lys
  rw [List.range_succ, List.map_append]
  rfl
theorem lyr_lys {T : Nat → Int32} {L q : Nat} (h : q < L) : lyr (lys T L) q = lay T q := by
  unfold lyr lys
  rw [List.getD_eq_getElem?_getD, List.getElem?_map, List.getElem?_range h]
  rfl
theorem lys_ok {T : Nat → Int32} {n L : Nat} (hn : n = 4 * L + 3) (h : ∀ q, q < n → gnF q (T q) = true) : okW (lys T L) := by
  intro t ht
  unfold lys at ht
  obtain ⟨q, hq, rfl⟩ := List.mem_map.mp ht
  have hq := List.mem_range.mp hq
  have g1 := h (4 * q + 4) (by omega)
  have g2 := h (4 * q + 5) (by omega)
  have g3 := h (4 * q + 6) (by omega)
  rw [gn_1] at g1
  rw [gn_2] at g2
  rw [gn_3] at g3
  refine ⟨?_, dgF_ok g2, dgF_ok g3⟩
  rcases kdF_cs (T (4 * q + 4)) with e | e | e | e
  · exact Or.inl e
  · exact Or.inr (Or.inl e)
  · exact Or.inr (Or.inr e)
  · rw [decide_eq_true e] at g1
    exact absurd g1 (by decide)
theorem X4_read_L {T : Nat → Int32} {k len i n L : Nat} {wm dm : Int32} (hk4 : k < 4) (hl : len ≤ 60) (hin : i + n ≤ len) (hn : n = 4 * L + 3) (hL : 1 ≤ L) (hL6 : L ≤ 6) {μ0 : Mem} (h3 : μ0 (22 + 1 + k) 3 = nI len) (hT : ∀ q, q < n → μ0 (22 + 1 + k + 4) (i + q) = T q) :
    ∀ (m fuel j : Nat) (μ : Mem), j + m = L → m < fuel → IsW μ 1 (lys T j) wm dm → FrW μ0 μ 1 → ∃ μ', fX4_readText_L23 1 (22 + 1 + k) (nI i) (nI n) fuel (nI (i + (4 * j + 3))) μ = some ((), μ') ∧ IsW μ' 1 (lys T L) wm dm ∧ FrW μ0 μ' 1 := by
  have e4 : nI i + nI n - 4 = nI (i + n - 4) := by rw [nI_add]; exact pk_sub (b := 4) (by omega)
  intro m
  induction m with
  | zero =>
    intro fuel j μ hj hf hW hF
    obtain ⟨fuel, rfl⟩ : ∃ f, fuel = f + 1 := ⟨fuel - 1, by omega⟩
    have : j = L := by omega
    subst this
    refine ⟨μ, ?_, hW, hF⟩
    show sX4_readText_L23 (fX4_readText_L23 1 (22 + 1 + k) (nI i) (nI n) fuel) 1 (22 + 1 + k) (nI i) (nI n) (nI (i + (4 * j + 3))) μ = _
    unfold sX4_readText_L23
    rw [e4, if_pos ((lt_nI (by omega) (by omega)).mpr (by omega))]
  | succ m ih =>
    intro fuel j μ hj hf hW hF
    obtain ⟨fuel, rfl⟩ : ∃ f, fuel = f + 1 := ⟨fuel - 1, by omega⟩
    show ∃ μ', sX4_readText_L23 (fX4_readText_L23 1 (22 + 1 + k) (nI i) (nI n) fuel) 1 (22 + 1 + k) (nI i) (nI n) (nI (i + (4 * j + 3))) μ = _ ∧ _
    unfold sX4_readText_L23
    have g3 : μ (22 + 1 + k) 3 = nI len := by rw [hF _ (by omega)]; exact h3
    have c : ∀ q, q < n → μ (22 + 1 + k + 4) (i + q) = T q := fun q hq => by rw [hF _ (by omega)]; exact hT q hq
    have a1 : nI (i + (4 * j + 3)) + (1 : Int32) = nI (i + (4 * j + 4)) := nI_add _ 1
    have a2 : nI (i + (4 * j + 3)) + (2 : Int32) = nI (i + (4 * j + 5)) := nI_add _ 2
    have a3 : nI (i + (4 * j + 3)) + (3 : Int32) = nI (i + (4 * j + 6)) := nI_add _ 3
    have a4 : nI (i + (4 * j + 3)) + (4 : Int32) = nI (i + (4 * (j + 1) + 3)) := nI_add _ 4
    obtain ⟨μ1, e1, e2, e3⟩ := X4_addBelow hW (lay T j) (by rw [lys_len]; omega)
    rw [← lys_succ] at e2
    unfold fX4_digitAt
    rw [e4, if_neg (fun z => absurd ((lt_nI (by omega) (by omega)).mp z) (by omega)), a1, a2, a3, getCell_eq g3 hl (by omega), bnd_s, c _ (by omega), kindOf_eq, bnd_s, getCell_eq g3 hl (by omega), bnd_s, bnd_s, c _ (by omega), getCell_eq g3 hl (by omega), bnd_s, bnd_s, c _ (by omega), show fX4_addBelow 1 (kdF (T (4 * j + 4))) (T (4 * j + 5) - 48) (T (4 * j + 6) - 48) μ = _ from e1, bnd_s, lti_e, a4]
    exact ih fuel (j + 1) μ1 (by omega) (by omega) e2 (hF.tr e3)
theorem X4_readText {T : Nat → Int32} {k len i n L : Nat} (hk4 : k < 4) (hl : len ≤ 60) (hin : i + n ≤ len) (hn : n = 4 * L + 3) (hL : 1 ≤ L) (hL6 : L ≤ 6) {μ : Mem} (h3 : μ (22 + 1 + k) 3 = nI len) (hT : ∀ q, q < n → μ (22 + 1 + k + 4) (i + q) = T q) :
    ∃ μ', fX4_readText 1 (22 + 1 + k) (nI i) (nI n) μ = some ((), μ') ∧ IsW μ' 1 (lys T L) (T 1 - 48) (T 2 - 48) ∧ FrW μ μ' 1 := by
  obtain ⟨μ1, e1, e2, e3⟩ := X4_begin 1 (T 1 - 48) (T 2 - 48) μ
  obtain ⟨μ2, f1, f2, f3⟩ := X4_read_L (T := T) (wm := T 1 - 48) (dm := T 2 - 48) hk4 hl hin hn hL hL6 h3 hT L FU 0 μ1 (by omega) (by show _ < 1000; omega) e2 e3
  refine ⟨μ2, ?_, f2, f3⟩
  have a1 : nI i + (1 : Int32) = nI (i + 1) := nI_add _ 1
  have a2 : nI i + (2 : Int32) = nI (i + 2) := nI_add _ 2
  have a3 : nI i + (3 : Int32) = nI (i + (4 * 0 + 3)) := nI_add _ 3
  unfold fX4_readText fX4_digitAt
  rw [a1, a2, a3, getCell_eq h3 hl (by omega), bnd_s, bnd_s, hT 1 (by omega), getCell_eq h3 hl (by omega), bnd_s, bnd_s, hT 2 (by omega), e1, bnd_s, lti_e]
  exact f1
theorem against_size {μ : Mem} {k : Nat} {x2 x3 x4 : Int32} (hk : k < 4) (h : ¬ μ 32 k = -9) (h2 : μ 32 k = x2) (h4 : ¬ 0 ≤ x4) : fX6_against (nI k) x2 x3 x4 μ = some (4, μ) := by
  have hi : inb (nI k) 4 := inb_nI hk (by omega)
  unfold fX6_against
  rw [if_pos hi, cl_nI (by omega), if_neg h, if_pos hi, if_pos h2, if_pos hi, if_neg h, if_neg h4]
theorem Jk.r38 {μ μ' : Mem} (h : Ex [38] [11, 12, 13, 14] μ μ') : Jk μ μ' := ⟨fun i hi => h.1 i (by omega) (by simp; omega), fun f hf => h.2 f (by revert f; decide)⟩
theorem op_wall (x1 x2 x3 x4 : Int32) : St (fX5_wall x1 x2 x3 x4) (fX6_wall x1 x2 x3 x4) := by
  rintro μ ⟨ls, wm, dm, rs, hR⟩
  have hR' := hR
  have hf0 := hR.flt 0
  obtain ⟨⟨hW, hM, hok⟩, -, hS, -, hfl⟩ := hR
  rcases zu_3 x1 with hz | ⟨hz, k, hk, rfl⟩
  · refine ⟨-1, up2 μ 0 6 0, up2 (up2 μ 0 6 0) 31 0 0, ?_, ?_, ls, wm, dm, rs, hf0⟩
    · unfold fX5_wall
      rw [ltm_e, sheetAt_no hz, bnd_s, oe_n]
    · unfold fX6_wall
      rw [ltm_e, isSheet_eq, bnd_s, if_pos hz]
  · have hk4 : k < 4 := by omega
    have g : ∀ v, up2 μ 0 6 v (22 + 1 + k) = μ (22 + 1 + k) := fun v => up2_n _ _ _ (by omega)
    have g4 : ∀ v, up2 μ 0 6 v (22 + 1 + k + 4) = μ (22 + 1 + k + 4) := fun v => up2_n _ _ _ (by omega)
    by_cases hy : zu x2 2 = 0
    · refine ⟨-2, up2 μ 0 6 0, up2 (up2 μ 0 6 0) 31 0 0, ?_, ?_, ls, wm, dm, rs, hf0⟩
      · unfold fX5_wall
        rw [ltm_e, sheetAt_yes hk4 hz, bnd_s, oe_s, isUpTo_eq, bnd_s, if_pos hy]
      · unfold fX6_wall
        rw [ltm_e, isSheet_eq, bnd_s, if_neg (zu_n0 hz), isSort_eq, bnd_s, if_pos hy]
    · have pre5 : fX5_wall (nI k) x2 x3 x4 μ = (fun μ_8 => bnd (fX3_faultAsLane (22 + 1 + k) x2 μ_8) (fun r_13 μ_11 => (if r_13 = 0 then (if 0 ≤ x4 then bnd (fX3_faultOfCells (22 + 1 + k) x3 x4 μ_11) (fun r_26 μ_24 => (if r_26 = 0 then bnd (fX5_firstFault (22 + 1 + k) x3 x4 μ_24) (fun r_29 μ_27 => (if r_29 < 0 then bnd (fX4_readText 1 (22 + 1 + k) x3 x4 μ_27) (fun _ μ_30 => ltm (up2 μ_30 17 2 (0 : Int32)) (fun μ_33 => some ((μ_33 1 1), μ_33))) else some (((-100 : Int32) - r_29), μ_27))) else bnd (fX5_failed r_26 μ_24) (fun r_36 μ_34 => some (r_36, μ_34)))) else bnd (fX5_failed (4 : Int32) μ_11) (fun r_39 μ_37 => some (r_39, μ_37))) else (if r_13 = 0 then bnd (fX5_firstFault (22 + 1 + k) x3 x4 μ_11) (fun r_16 μ_14 => (if r_16 < 0 then bnd (fX4_readText 1 (22 + 1 + k) x3 x4 μ_14) (fun _ μ_17 => ltm (up2 μ_17 17 2 (0 : Int32)) (fun μ_20 => some ((μ_20 1 1), μ_20))) else some (((-100 : Int32) - r_16), μ_14))) else bnd (fX5_failed r_13 μ_11) (fun r_23 μ_21 => some (r_23, μ_21)))))) (up2 μ 0 6 0) := by
        unfold fX5_wall
        rw [ltm_e, sheetAt_yes hk4 hz, bnd_s, oe_s, isUpTo_eq, bnd_s, if_neg hy]
      dsimp only at pre5
      have pre6 : ∀ ν : Mem, fX6_wall (nI k) x2 x3 x4 ν = bnd (fX6_against (nI k) x2 x3 x4 (up2 ν 31 0 0)) (fun r_10 μ_8 => (if r_10 = 0 then lti (((60 : Int32) * nI k) + x3) (fun y_11 => ltm (up2 μ_8 31 11 y_11) (fun μ_12 => bnd (fX6_readWall (y_11 + x4) μ_12) (fun r_15 μ_13 => (if r_15 = 0 then some (((-100 : Int32) - ((μ_13 31 11) - y_11)), μ_13) else bnd (fX6_takeWall μ_13) (fun _ μ_16 => some ((μ_16 31 5), μ_16)))))) else bnd (fX6_fails r_10 μ_8) (fun r_21 μ_19 => some (r_21, μ_19)))) := by
        intro ν
        unfold fX6_wall
        rw [ltm_e, isSheet_eq, bnd_s, if_neg (zu_n0 hz), isSort_eq, bnd_s, if_neg hy]
      have g32 : ∀ v w, up2 (up2 μ 0 6 v) 31 0 w 32 = μ 32 := fun v w => (up2_n _ _ _ (by decide)).trans (up2_n _ _ _ (by decide))
      have g33 : ∀ v w, up2 (up2 μ 0 6 v) 31 0 w 33 = μ 33 := fun v w => (up2_n _ _ _ (by decide)).trans (up2_n _ _ _ (by decide))
      have g34 : ∀ v w, up2 (up2 μ 0 6 v) 31 0 w 34 = μ 34 := fun v w => (up2_n _ _ _ (by decide)).trans (up2_n _ _ _ (by decide))
      rcases (hS k hk4).1 with ⟨h1, h2⟩ | ⟨h1, h2, ⟨l, hl, ev⟩, len, hlen, e3, e4⟩
      · refine ⟨-10 - 1, up2 μ 0 6 1, up2 (up2 μ 0 6 1) 31 0 1, ?_, ?_, ls, wm, dm, rs, hR'.flt 1⟩
        · rw [pre5]
          unfold fX3_faultAsLane
          rw [g, if_pos h1, bnd_s, if_neg (by decide), if_neg (by decide), failed_eq, bnd_s, upp]
        · rw [pre6, against_null hk4 (by rw [g32]; exact h2), bnd_s, if_neg (by decide), fails_eq, bnd_s, upp]
      · have ne : ¬ μ 32 k = -9 := by rw [h2, ev]; exact enO_ne (by omega)
        have n1 : ¬ μ (22 + 1 + k) 1 = 0 := by rw [h1]; decide
        by_cases hla : μ (22 + 1 + k) 2 = x2
        · have hla6 : μ 32 k = x2 := h2.trans hla
          have l5 : fX3_faultAsLane (22 + 1 + k) x2 (up2 μ 0 6 0) = some (0, up2 μ 0 6 0) := by
            unfold fX3_faultAsLane
            rw [g, if_neg n1, if_pos hla]
          by_cases h4 : 0 ≤ x4
          · have f1 : fX3_faultOfCells (22 + 1 + k) x3 x4 (up2 μ 0 6 0) = some (if cellsOk len x3 x4 then 0 else 3, up2 μ 0 6 0) := foc_eq (by rw [g]; exact n1) (by rw [g]; exact e3)
            obtain ⟨n, hn31, rfl⟩ := nI_of0 h4
            by_cases hc : cellsOk len x3 (nI n) = true
            · obtain ⟨i, m, rfl, em, him⟩ := cells_nat hlen hc
              have emm : m = n := by
                have hb1 : m < 2 ^ 31 := by omega
                exact ((nI_eq hn31 hb1).mp em).symm
              subst emm
              let T : Nat → Int32 := fun q => μ 34 (60 * k + i + q)
              have hT5 : ∀ q, q < m → up2 μ 0 6 0 (22 + 1 + k + 4) (i + q) = T q := fun q hq => by
                rw [g4, (hS k hk4).2 _ (by omega)]
                show _ = μ 34 (60 * k + i + q)
                rw [Nat.add_assoc]
              have g3 : up2 μ 0 6 0 (22 + 1 + k) 3 = nI len := by rw [g]; exact e3
              have ff : fX5_firstFault (22 + 1 + k) (nI i) (nI m) (up2 μ 0 6 0) = _ := X5_ff_L (T := T) g3 hlen him hT5 m FU 0 (by omega) (by show _ < 1000; omega)
              have e60 : (60 : Int32) * nI k + nI i = nI (60 * k + i) := by rw [show (60 : Int32) = nI 60 from rfl, pk_mul, nI_add]
              cases hF : FF T m 0 with
              | some p =>
                rw [hF] at ff
                have p60 : p ≤ m := by
                  have : ∀ d q p', q + d = m → FF T m q = some p' → p' ≤ m := by
                    intro d
                    induction d with
                    | zero =>
                      intro q p' hq h
                      have : q = m := by omega
                      subst this
                      rw [FF_end] at h
                      split at h
                      · have := Option.some.inj h; omega
                      · split at h
                        · exact absurd h (by simp)
                        · have := Option.some.inj h; omega
                    | succ d ih =>
                      intro q p' hq h
                      rw [FF_st (by omega)] at h
                      split at h
                      · exact ih (q + 1) p' (by omega) h
                      · have := Option.some.inj h; omega
                  exact this m 0 p (by omega) hF
                obtain ⟨r, μ2, r1, r2, r3⟩ := X6_readWall (T := T) (b := 60 * k + i) (n := m) (by omega) (μ := up2 (up2 (up2 μ 0 6 0) 31 0 0) 31 11 (nI (60 * k + i))) (up2_ks _ _ _ _) (fun q hq => by rw [up2_n _ _ _ (show 34 ≠ 31 by decide), g34])
                rcases r3 with ⟨rfl, p', s1, s2⟩ | ⟨-, s1, -⟩
                · rw [hF] at s1
                  have ep : p = p' := Option.some.inj s1
                  subst ep
                  refine ⟨-100 - nI p, up2 μ 0 6 0, μ2, ?_, ?_, ls, wm, dm, rs, ?_⟩
                  · rw [pre5, l5, bnd_s, if_pos rfl, if_pos h4, f1, bnd_s, if_pos hc, if_pos rfl, ff, bnd_s, if_neg (nI_pos (by omega))]
                  · rw [pre6, against_eq hk4 (by rw [g32]; exact ne) (by rw [g32]; exact hla6) (by rw [g33]; exact e4) hn31, bnd_s, if_pos hc, if_pos rfl, lti_e, ltm_e, e60, nI_add, r1, bnd_s, if_pos rfl, s2, pk_sub (by omega), Nat.add_sub_cancel_left]
                  · exact hf0.jk (Jk.r38 (Ex.tr (Ex.up _ _ (Or.inr ⟨rfl, by decide⟩)) r2))
                · rw [hF] at s1; exact absurd s1 (by simp)
              | none =>
                rw [hF] at ff
                obtain ⟨hall, h11, hmod⟩ := FF_none m 0 (by omega) hF
                have hm27 : m ≤ 27 := by
                  rcases Nat.lt_or_ge 27 m with q | q
                  · have := hall 27 (by omega) q
                    unfold gnF at this
                    rw [if_neg (by decide), if_pos (by decide), if_pos (by decide), decide_eq_false (show ¬ (27 - 3) / 4 < 6 by decide), Bool.and_false] at this
                    exact absurd this (by decide)
                  · exact q
                obtain ⟨L, hL⟩ : ∃ L, m = 4 * L + 3 := ⟨(m - 3) / 4, by omega⟩
                obtain ⟨μt, t1, t2, t3⟩ := X4_readText (T := T) hk4 hlen him hL (by omega) (by omega) g3 hT5
                have hokT : okW (lys T L) := lys_ok hL (fun q hq => hall q (by omega) hq)
                let μ1 : Mem := up2 μt 17 2 0
                have hμ1 : ∀ i, i ≠ 17 → μ1 i = μt i := fun i hi => up2_n _ _ _ hi
                have q32 : up2 μ1 31 0 0 32 = μ 32 := by rw [up2_n _ _ _ (by decide), hμ1 32 (by decide), t3 32 (by omega), up2_n _ _ _ (by decide)]
                have q33 : up2 μ1 31 0 0 33 = μ 33 := by rw [up2_n _ _ _ (by decide), hμ1 33 (by decide), t3 33 (by omega), up2_n _ _ _ (by decide)]
                have q34 : up2 μ1 31 0 0 34 = μ 34 := by rw [up2_n _ _ _ (by decide), hμ1 34 (by decide), t3 34 (by omega), up2_n _ _ _ (by decide)]
                obtain ⟨r, μ2, r1, r2, r3⟩ := X6_readWall (T := T) (b := 60 * k + i) (n := m) (by omega) (μ := up2 (up2 μ1 31 0 0) 31 11 (nI (60 * k + i))) (up2_ks _ _ _ _) (fun q hq => by rw [up2_n _ _ _ (show 34 ≠ 31 by decide), q34])
                rcases r3 with ⟨-, p', s1, -⟩ | ⟨rfl, -, s2, s3, L', hL6, hL', s4, s5⟩
                · rw [hF] at s1; exact absurd s1 (by simp)
                · have eL : L' = L := by omega
                  subst eL
                  obtain ⟨μ3, w1, w2, w3, w4⟩ := X6_takeWall (ls := lys T L') s2 s3 (by rw [lys_len]; exact s4) (fun j hj => by
                    rw [lys_len] at hj
                    rw [lyr_lys hj]; exact s5 j hj) (by rw [lys_len]; omega)
                  have cc : ∀ c, c ≠ 0 → (c < 1 ∨ 9 ≤ c) → c ≠ 17 → c ≠ 31 → c ≠ 35 → c ≠ 36 → c ≠ 37 → c ≠ 38 → μ3 c = μ c := fun c h0 h1 h17 h31 h35 h36 h37 h38 => by
                    rw [w4.1 c h31 (by simp; omega), r2.1 c h31 (by simp; omega), up2_n _ _ _ h31, up2_n _ _ _ h31, hμ1 c h17, t3 c (by omega), up2_n _ _ _ h0]
                  have cw : ∀ c, 1 ≤ c → c < 9 → μ3 c = μt c := fun c h1 h2 => by
                    rw [w4.1 c (by omega) (by simp; omega), r2.1 c (by omega) (by simp; omega), up2_n _ _ _ (by omega), up2_n _ _ _ (by omega), hμ1 c (by omega)]
                  have c0 : μ3 0 = up2 μ 0 6 0 0 := by
                    rw [w4.1 0 (by omega) (by decide), r2.1 0 (by omega) (by decide), up2_n _ _ _ (by omega), up2_n _ _ _ (by omega), hμ1 0 (by omega), t3 0 (by omega)]
                  have c31 : ∀ f, f ≠ 0 → f ≠ 11 → f ≠ 12 → f ≠ 13 → f ≠ 14 → f ≠ 5 → f ≠ 6 → f ≠ 7 → f ≠ 22 → μ3 31 f = μ 31 f := fun f a b c d e g h i j => by
                    rw [w4.2 f (by simp; omega), r2.2 f (by simp; omega), up2_kn _ _ b, up2_kn _ _ a, hμ1 31 (by omega), t3 31 (by omega), up2_n _ _ _ (by omega)]
                  have W3 : IsW μ3 1 (lys T L') (T 1 - 48) (T 2 - 48) := t2.fr (fun c h1 h2 => cw c h1 (by omega))
                  refine ⟨nI L', μ1, μ3, ?_, ?_, lys T L', T 1 - 48, T 2 - 48, [], ⟨W3, w2, hokT⟩, ⟨⟨by decide, ?_, fun j hj => absurd hj (by simp)⟩, ⟨by decide, w3, fun j hj => absurd hj (by simp)⟩⟩, ?_, ?_, ?_⟩
                  · rw [pre5, l5, bnd_s, if_pos rfl, if_pos h4, f1, bnd_s, if_pos hc, if_pos rfl, ff, bnd_s, if_pos (show (-1 : Int32) < 0 from by decide), t1, bnd_s, ltm_e, up2_n _ _ _ (show 1 ≠ 17 by decide), t2.2.1, lys_len]
                  · rw [pre6, against_eq hk4 (by rw [q32]; exact ne) (by rw [q32]; exact hla6) (by rw [q33]; exact e4) hn31, bnd_s, if_pos hc, if_pos rfl, lti_e, ltm_e, e60, nI_add, r1, bnd_s, if_neg (by decide), w1, bnd_s, w2.2.1, lys_len]
                  · rw [w4.1 17 (by omega) (by decide), r2.1 17 (by omega) (by decide), up2_n _ _ _ (by omega), up2_n _ _ _ (by omega)]
                    exact up2_ks _ _ _ _
                  · exact hS.fr (fun c hc => cc c (by omega) (by omega) (by omega) (by omega) (by omega) (by omega) (by omega) (by omega))
                  · rw [c0, up2_kn _ _ (by decide), c31 1 (by decide) (by decide) (by decide) (by decide) (by decide) (by decide) (by decide) (by decide) (by decide)]
                    exact hR'.2.2.2.1
                  · rw [c0, up2_ks, w4.2 0 (by decide), r2.2 0 (by decide), up2_kn _ _ (by decide), up2_ks]
            · refine ⟨-10 - 3, up2 μ 0 6 3, up2 (up2 μ 0 6 3) 31 0 3, ?_, ?_, ls, wm, dm, rs, hR'.flt 3⟩
              · rw [pre5, l5, bnd_s, if_pos rfl, if_pos h4, f1, bnd_s, if_neg hc, if_neg (by decide), failed_eq, bnd_s, upp]
              · rw [pre6, against_eq hk4 (by rw [g32]; exact ne) (by rw [g32]; exact hla6) (by rw [g33]; exact e4) hn31, bnd_s, if_neg hc, if_neg (by decide), fails_eq, bnd_s, upp]
          · refine ⟨-10 - 4, up2 μ 0 6 4, up2 (up2 μ 0 6 4) 31 0 4, ?_, ?_, ls, wm, dm, rs, hR'.flt 4⟩
            · rw [pre5, l5, bnd_s, if_pos rfl, if_neg h4, failed_eq, bnd_s, upp]
            · rw [pre6, against_size hk4 (by rw [g32]; exact ne) (by rw [g32]; exact hla6) h4, bnd_s, if_neg (by decide), fails_eq, bnd_s, upp]
        · have hla6 : ¬ μ 32 k = x2 := fun q => hla (h2.symm.trans q)
          refine ⟨-10 - 2, up2 μ 0 6 2, up2 (up2 μ 0 6 2) 31 0 2, ?_, ?_, ls, wm, dm, rs, hR'.flt 2⟩
          · rw [pre5]
            unfold fX3_faultAsLane
            rw [g, if_neg n1, if_neg hla, bnd_s, if_neg (by decide), if_neg (by decide), failed_eq, bnd_s, upp]
          · rw [pre6, against_cast hk4 (by rw [g32]; exact ne) (by rw [g32]; exact hla6), bnd_s, if_neg (by decide), fails_eq, bnd_s, upp]
