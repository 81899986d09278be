/-! PURE: wall, the reference's reading -/
def rlT (x1 y v : Int32) (μ : Mem) : Option (Int32 × Mem) := if inb y 18 then ltm (up2 μ 38 (y).toNatClampNeg v) (fun μ_48 => if inb y 18 then (if (μ_48 38 (y).toNatClampNeg) = (-9 : Int32) then some ((0 : Int32), μ_48) else ltm (up2 μ_48 31 11 ((μ_48 31 11) + (1 : Int32))) (fun μ_49 => bnd (fX6_digit x1 μ_49) (fun r_52 μ_50 => if inb (y + (1 : Int32)) 18 then ltm (up2 μ_50 38 ((y + (1 : Int32))).toNatClampNeg r_52) (fun μ_53 => if inb (y + (1 : Int32)) 18 then (if (μ_53 38 ((y + (1 : Int32))).toNatClampNeg) = (-9 : Int32) then some ((0 : Int32), μ_53) else bnd (fX6_digit x1 μ_53) (fun r_56 μ_54 => if inb (y + (2 : Int32)) 18 then ltm (up2 μ_54 38 ((y + (2 : Int32))).toNatClampNeg r_56) (fun μ_57 => ltm (up2 μ_57 31 14 ((μ_57 31 14) + (1 : Int32))) (fun μ_58 => if inb (y + (2 : Int32)) 18 then (if (μ_58 38 ((y + (2 : Int32))).toNatClampNeg) = (-9 : Int32) then some ((0 : Int32), μ_58) else some ((1 : Int32), μ_58)) else none)) else none)) else none) else none))) else none) else none
theorem rl_end {x1 : Int32} {μ : Mem} (h : x1 ≤ μ 31 11) : fX6_readLayer x1 μ = rlT x1 (3 * μ 31 14) (-9) μ := by
  unfold fX6_readLayer
  rw [if_pos h, lti_e]
  rfl
theorem rl_go {x1 : Int32} {μ : Mem} (h : ¬ x1 ≤ μ 31 11) (hi : inb (μ 31 11) 240) : fX6_readLayer x1 μ = rlT x1 (3 * μ 31 14) (kdF (μ 34 (μ 31 11).toNatClampNeg)) μ := by
  unfold fX6_readLayer
  rw [if_neg h, if_pos hi, lti_e, lti_e]
  generalize μ 34 (μ 31 11).toNatClampNeg = c
  unfold kdF
  by_cases h1 : c = 115
  · have h2 : ¬ c = 114 := by rw [h1]; decide
    rw [if_pos h1, if_neg h2, if_pos h1]
    rfl
  · rw [if_neg h1]
    by_cases h3 : c = 116
    · have h2 : ¬ c = 114 := by rw [h3]; decide
      rw [if_pos h3, if_neg h2, if_neg h1, if_pos h3]
      rfl
    · rw [if_neg h3]
      by_cases h2 : c = 114
      · rw [if_pos h2, if_pos h2]
        rfl
      · rw [if_neg h2, if_neg h2, if_neg h1, if_neg h3]
        rfl
def lay (T : Nat → Int32) (j : Nat) : LT := (kdF (T (4 * j + 4)), T (4 * j + 5) - 48, T (4 * j + 6) - 48)
theorem gn_0 {j : Nat} (hj : j < 6) (c : Int32) : gnF (4 * j + 3) c = decide (c = 59) := by
  unfold gnF
  rw [if_neg (by omega), if_pos (by omega), if_pos (by omega), decide_eq_true (show (4 * j + 3 - 3) / 4 < 6 by omega), Bool.and_true]
theorem gn_1 (j : Nat) (c : Int32) : gnF (4 * j + 4) c = !decide (kdF c = -9) := by
  unfold gnF
  rw [if_neg (by omega), if_pos (by omega), if_neg (by omega), if_pos (by omega)]
theorem gn_2 (j : Nat) (c : Int32) : gnF (4 * j + 5) c = dgF c := by
  unfold gnF
  rw [if_neg (by omega), if_pos (by omega), if_neg (by omega), if_neg (by omega)]
theorem gn_3 (j : Nat) (c : Int32) : gnF (4 * j + 6) c = dgF c := by
  unfold gnF
  rw [if_neg (by omega), if_pos (by omega), if_neg (by omega), if_neg (by omega)]
theorem rl_no {x1 : Int32} {μ : Mem} {j : Nat} (hj : j < 6) : rlT x1 (nI (3 * j)) (-9) μ = some (0, up2 μ 38 (3 * j) (-9)) := by
  unfold rlT
  have i0 : inb (nI (3 * j)) 18 := inb_nI (by omega) (by omega)
  rw [if_pos i0, ltm_e, if_pos i0, cl_nI (by omega), up2_ks, if_pos rfl]
theorem X6_readLayer {T : Nat → Int32} {b n j : Nat} {μ : Mem} (hb : b + n ≤ 240) (hj : j < 6) (hpn : 4 * j + 4 ≤ n) (h11 : μ 31 11 = nI (b + (4 * j + 4))) (h14 : μ 31 14 = nI j) (hc : ∀ q, q < n → μ 34 (b + q) = T q) :
    ∃ r μ', fX6_readLayer (nI (b + n)) μ = some (r, μ') ∧ Ex [38] [11, 14] μ μ' ∧ (∀ q, q < 3 * j → μ' 38 q = μ 38 q) ∧ ((r = 0 ∧ ∃ p', FF T n (4 * j + 4) = some p' ∧ μ' 31 11 = nI (b + p')) ∨ (r = 1 ∧ FF T n (4 * j + 4) = FF T n (4 * j + 7) ∧ 4 * j + 7 ≤ n ∧ μ' 31 11 = nI (b + (4 * j + 7)) ∧ μ' 31 14 = nI (j + 1) ∧ (μ' 38 (3 * j), μ' 38 (3 * j + 1), μ' 38 (3 * j + 2)) = lay T j)) := by
  have e3 : (3 : Int32) * μ 31 14 = nI (3 * j) := by rw [h14]; exact pk_mul 3 j
  have x38 : ∀ (ν : Mem) (k : Nat) (v : Int32), Ex [38] [11, 14] ν (up2 ν 38 k v) := fun ν k v => Ex.up _ _ (Or.inl ⟨by decide, by decide⟩)
  have xf : ∀ (ν : Mem) (k : Nat) (v : Int32), k = 11 ∨ k = 14 → Ex [38] [11, 14] ν (up2 ν 31 k v) := fun ν k v h => Ex.up _ _ (Or.inr ⟨rfl, by rcases h with rfl | rfl <;> decide⟩)
  have n31 : ∀ (ν : Mem) (k : Nat) (v : Int32), up2 ν 38 k v 31 = ν 31 := fun ν k v => up2_n _ _ _ (by decide)
  have n38 : ∀ (ν : Mem) (k : Nat) (v : Int32), up2 ν 31 k v 38 = ν 38 := fun ν k v => up2_n _ _ _ (by decide)
  have n34 : ∀ (ν : Mem) (k : Nat) (v : Int32), up2 ν 31 k v 34 = ν 34 := fun ν k v => up2_n _ _ _ (by decide)
  have m34 : ∀ (ν : Mem) (k : Nat) (v : Int32), up2 ν 38 k v 34 = ν 34 := fun ν k v => up2_n _ _ _ (by decide)
  by_cases hend : 4 * j + 4 = n
  · refine ⟨0, up2 μ 38 (3 * j) (-9), ?_, x38 _ _ _, fun q hq => up2_kn _ _ (by omega), Or.inl ⟨rfl, 4 * j + 4, ?_, ?_⟩⟩
    · rw [rl_end (by rw [h11, hend]; exact Int32.le_iff_toInt_le.mpr (Int.le_refl _)), e3, rl_no hj]
    · rw [hend, FF_end, if_neg (show ¬ (n - 3) % 4 = 0 by omega)]
      split <;> rfl
    · rw [n31]; exact h11
  · have hlt : 4 * j + 4 < n := by omega
    have go := rl_go (x1 := nI (b + n)) (μ := μ) (by rw [h11]; exact fun z => absurd ((le_nI (by omega) (by omega)).mp z) (by omega)) (by rw [h11]; exact inb_nI (by omega) (by omega))
    rw [h11, cl_nI (by omega), hc _ hlt, e3] at go
    rw [go]
    have f0 := FF_st (T := T) hlt
    rw [gn_1] at f0
    by_cases hk : kdF (T (4 * j + 4)) = -9
    · rw [decide_eq_true hk] at f0
      refine ⟨0, up2 μ 38 (3 * j) (-9), ?_, x38 _ _ _, fun q hq => up2_kn _ _ (by omega), Or.inl ⟨rfl, 4 * j + 4, f0, ?_⟩⟩
      · rw [hk, rl_no hj]
      · rw [n31]; exact h11
    · rw [decide_eq_false hk] at f0
      have f0' : FF T n (4 * j + 4) = FF T n (4 * j + 5) := f0
      rw [f0']
      have i0 : inb (nI (3 * j)) 18 := inb_nI (by omega) (by omega)
      have i1 : inb (nI (3 * j + 1)) 18 := inb_nI (by omega) (by omega)
      have i2 : inb (nI (3 * j + 2)) 18 := inb_nI (by omega) (by omega)
      have a1 : nI (3 * j) + (1 : Int32) = nI (3 * j + 1) := nI_add _ 1
      have a2 : nI (3 * j) + (2 : Int32) = nI (3 * j + 2) := nI_add _ 2
      unfold rlT
      rw [if_pos i0, ltm_e, if_pos i0, cl_nI (by omega), up2_ks, if_neg hk, ltm_e, n31, h11, show nI (b + (4 * j + 4)) + (1 : Int32) = nI (b + (4 * j + 5)) from nI_add _ 1, a1, a2]
      simp only [if_pos i1, if_pos i2]
      generalize hμB : up2 (up2 μ 38 (3 * j) (kdF (T (4 * j + 4)))) 31 11 (nI (b + (4 * j + 5))) = μB
      have xB : Ex [38] [11, 14] μ μB := by rw [← hμB]; exact (x38 _ _ _).tr (xf _ _ _ (Or.inl rfl))
      have B11 : μB 31 11 = nI (b + (4 * j + 5)) := by rw [← hμB, up2_ks]
      have B14 : μB 31 14 = nI j := by rw [← hμB, up2_kn _ _ (by decide), n31]; exact h14
      have B34 : ∀ q, q < n → μB 34 (b + q) = T q := fun q hq => by rw [← hμB, n34, m34]; exact hc q hq
      have B38 : ∀ q, q < 3 * j → μB 38 q = μ 38 q := fun q hq => by rw [← hμB, n38, up2_kn _ _ (by omega)]
      have B0 : μB 38 (3 * j) = kdF (T (4 * j + 4)) := by rw [← hμB, n38, up2_ks]
      rcases dig_step (T := T) B11 hb (by omega) B34 (gn_2 j) (Or.inr (by omega)) with ⟨q1, q2⟩ | ⟨q1, q2, q3, q4⟩
      · refine ⟨0, up2 μB 38 (3 * j + 1) (-9), ?_, xB.tr (x38 _ _ _), fun q hq => by rw [up2_kn _ _ (by omega)]; exact B38 q hq, Or.inl ⟨rfl, 4 * j + 5, q1, by rw [n31]; exact B11⟩⟩
        rw [q2, bnd_s, ltm_e, cl_nI (by omega), up2_ks, if_pos rfl]
      · rw [q3, q4, bnd_s, ltm_e, cl_nI (by omega), up2_ks, if_neg (okD_ne q2)]
        generalize hμD : up2 (up2 μB 31 11 (nI (b + (4 * j + 5 + 1)))) 38 (3 * j + 1) (T (4 * j + 5) - 48) = μD
        have xD : Ex [38] [11, 14] μ μD := by rw [← hμD]; exact xB.tr ((xf _ _ _ (Or.inl rfl)).tr (x38 _ _ _))
        have D11 : μD 31 11 = nI (b + (4 * j + 6)) := by rw [← hμD, n31, up2_ks]
        have D14 : μD 31 14 = nI j := by rw [← hμD, n31, up2_kn _ _ (by decide)]; exact B14
        have D34 : ∀ q, q < n → μD 34 (b + q) = T q := fun q hq => by rw [← hμD, m34, n34]; exact B34 q hq
        have D38 : ∀ q, q < 3 * j → μD 38 q = μ 38 q := fun q hq => by rw [← hμD, up2_kn _ _ (by omega), n38]; exact B38 q hq
        have D0 : μD 38 (3 * j) = kdF (T (4 * j + 4)) := by rw [← hμD, up2_kn _ _ (by omega), n38]; exact B0
        have D1 : μD 38 (3 * j + 1) = T (4 * j + 5) - 48 := by rw [← hμD, up2_ks]
        rcases dig_step (T := T) D11 hb (by omega) D34 (gn_3 j) (Or.inr (by omega)) with ⟨w1, w2⟩ | ⟨w1, w2, w3, w4⟩
        · refine ⟨0, up2 (up2 μD 38 (3 * j + 2) (-9)) 31 14 (nI (j + 1)), ?_, xD.tr ((x38 _ _ _).tr (xf _ _ _ (Or.inr rfl))), fun q hq => by rw [n38, up2_kn _ _ (by omega)]; exact D38 q hq, Or.inl ⟨rfl, 4 * j + 6, w1, by rw [up2_kn _ _ (by decide), n31]; exact D11⟩⟩
          rw [w2, bnd_s, ltm_e, ltm_e, cl_nI (by omega), n31, D14, n38, up2_ks, if_pos rfl, nI_1]
        · refine ⟨1, up2 (up2 (up2 μD 31 11 (nI (b + (4 * j + 6 + 1)))) 38 (3 * j + 2) (T (4 * j + 6) - 48)) 31 14 (nI (j + 1)), ?_, xD.tr (((xf _ _ _ (Or.inl rfl)).tr (x38 _ _ _)).tr (xf _ _ _ (Or.inr rfl))), fun q hq => by rw [n38, up2_kn _ _ (by omega), n38]; exact D38 q hq, Or.inr ⟨rfl, w3, by omega, by rw [up2_kn _ _ (by decide), n31, up2_ks], up2_ks _ _ _ _, ?_⟩⟩
          · rw [w4, bnd_s, ltm_e, ltm_e, cl_nI (by omega), n31, up2_kn _ _ (show 14 ≠ 11 by decide), D14, n38, up2_ks, if_neg (okD_ne w2), nI_1]
          · rw [n38, up2_ks, up2_kn _ _ (by omega), up2_kn _ _ (by omega), n38, D0, D1]
            rfl
theorem X6_layers_L {T : Nat → Int32} {b n : Nat} (hb : b + n ≤ 240) {μ0 : Mem} (hc : ∀ q, q < n → μ0 34 (b + q) = T q) : ∀ (m fuel j : Nat) (μ : Mem), j + m = 6 → m < fuel → 4 * j + 3 ≤ n → μ 31 11 = nI (b + (4 * j + 3)) → μ 31 14 = nI j → Ex [38] [11, 14] μ0 μ → (∀ q, q < j → (μ 38 (3 * q), μ 38 (3 * q + 1), μ 38 (3 * q + 2)) = lay T q) →
    ∃ r μ', fX6_readWall_L57 (nI (b + n)) fuel μ = some (r, μ') ∧ Ex [38] [11, 14] μ0 μ' ∧ ((r = 0 ∧ ∃ p', FF T n (4 * j + 3) = some p' ∧ μ' 31 11 = nI (b + p')) ∨ (r = 1 ∧ FF T n (4 * j + 3) = none ∧ ∃ L, L ≤ 6 ∧ n = 4 * L + 3 ∧ μ' 31 14 = nI L ∧ ∀ q, q < L → (μ' 38 (3 * q), μ' 38 (3 * q + 1), μ' 38 (3 * q + 2)) = lay T q)) := by
  intro m
  induction m with
  | zero =>
    intro fuel j μ hj hf hpn h11 h14 hX hI
    obtain ⟨fuel, rfl⟩ : ∃ f, fuel = f + 1 := ⟨fuel - 1, by omega⟩
    have j6 : j = 6 := by omega
    subst j6
    have un : fX6_readWall_L57 (nI (b + n)) (fuel + 1) μ = if μ 31 11 = nI (b + n) then some ((1 : Int32), μ) else some ((0 : Int32), μ) := by
      show sX6_readWall_L57 (fX6_readWall_L57 (nI (b + n)) fuel) (nI (b + n)) μ = _
      unfold sX6_readWall_L57
      rw [h14, if_neg (by decide), if_pos (by decide)]
    rw [un, h11]
    by_cases e : n = 27
    · subst e
      refine ⟨1, μ, if_pos rfl, hX, Or.inr ⟨rfl, ?_, 6, by omega, by omega, h14, hI⟩⟩
      show FF T 27 27 = none
      rw [FF_end]
      rfl
    · refine ⟨0, μ, if_neg (fun z => e ?_), hX, Or.inl ⟨rfl, 27, ?_, h11⟩⟩
      · have := (nI_eq (by omega) (by omega)).mp z
        omega
      · show FF T n 27 = some 27
        rw [FF_st (by omega)]
        have : gnF 27 (T 27) = false := by
          unfold gnF
          rw [if_neg (by decide), if_pos (by decide), if_pos (by decide), decide_eq_false (show ¬ (27 - 3) / 4 < 6 by decide), Bool.and_false]
        rw [this, if_neg (by decide)]
  | succ m ih =>
    intro fuel j μ hj hf hpn h11 h14 hX hI
    obtain ⟨fuel, rfl⟩ : ∃ f, fuel = f + 1 := ⟨fuel - 1, by omega⟩
    have hX34 : ∀ q, q < n → μ 34 (b + q) = T q := fun q hq => by rw [hX.1 34 (by decide) (by decide)]; exact hc q hq
    have un : ∀ R, bnd (fX6_isSign (nI (b + n)) (59 : Int32) μ) (fun r_15 μ_13 => (if r_15 = 0 then some ((0 : Int32), μ_13) else bnd (fX6_readLayer (nI (b + n)) μ_13) (fun r_18 μ_16 => (if r_18 = 0 then some ((0 : Int32), μ_16) else fX6_readWall_L57 (nI (b + n)) fuel μ_16)))) = R → (¬ 4 * j + 3 = n ∨ j < 2) → fX6_readWall_L57 (nI (b + n)) (fuel + 1) μ = R := by
      intro R hR hh
      rw [← hR]
      show sX6_readWall_L57 (fX6_readWall_L57 (nI (b + n)) fuel) (nI (b + n)) μ = _
      unfold sX6_readWall_L57
      rw [h14]
      by_cases h2 : j < 2
      · rw [if_pos (show nI j < 2 from (lt_nI (b := 2) (by omega) (by omega)).mpr h2)]
      · rw [if_neg (show ¬ nI j < 2 from fun z => h2 ((lt_nI (b := 2) (by omega) (by omega)).mp z)), if_neg (show ¬ (6 : Int32) ≤ nI j from fun z => absurd ((le_nI (a := 6) (by omega) (by omega)).mp z) (by omega)), h11, if_neg (fun z => absurd ((le_nI (by omega) (by omega)).mp z) (by omega))]
    by_cases hend : 4 * j + 3 = n
    · by_cases h2 : j < 2
      · refine ⟨0, μ, un _ ?_ (Or.inr h2), hX, Or.inl ⟨rfl, n, ?_, by rw [h11, hend]⟩⟩
        · rw [X6_isSign_end (by rw [h11, hend]), bnd_s, if_pos rfl]
        · rw [hend, FF_end, if_pos (by omega)]
      · refine ⟨1, μ, ?_, hX, Or.inr ⟨rfl, ?_, j, by omega, hend.symm, h14, hI⟩⟩
        · show sX6_readWall_L57 (fX6_readWall_L57 (nI (b + n)) fuel) (nI (b + n)) μ = _
          unfold sX6_readWall_L57
          rw [h14, if_neg (show ¬ nI j < 2 from fun z => h2 ((lt_nI (b := 2) (by omega) (by omega)).mp z)), if_neg (show ¬ (6 : Int32) ≤ nI j from fun z => absurd ((le_nI (a := 6) (by omega) (by omega)).mp z) (by omega)), h11, hend, if_pos (Int32.le_iff_toInt_le.mpr (Int.le_refl _)), if_pos rfl]
        · rw [hend, FF_end, if_neg (by omega), if_pos (by omega)]
    · have hlt : 4 * j + 3 < n := by omega
      have f0 := FF_st (T := T) hlt
      rw [gn_0 (by omega)] at f0
      have sg := X6_isSign_eq (s := 59) h11 hb hlt
      rw [hX34 _ hlt] at sg
      by_cases hs : T (4 * j + 3) = 59
      · rw [decide_eq_true hs, if_pos rfl] at f0
        rw [if_pos hs] at sg
        have h11' : up2 μ 31 11 (nI (b + (4 * j + 3) + 1)) 31 11 = nI (b + (4 * j + 4)) := up2_ks _ _ _ _
        obtain ⟨r, μ1, e1, e2, e3, e4⟩ := X6_readLayer (T := T) (j := j) (μ := up2 μ 31 11 (nI (b + (4 * j + 3) + 1))) hb (by omega) (by omega) h11' (by rw [up2_kn _ _ (by decide)]; exact h14) (fun q hq => by rw [up2_n _ _ _ (by decide)]; exact hX34 q hq)
        have x1 : Ex [38] [11, 14] μ0 μ1 := (hX.tr (Ex.up _ _ (Or.inr ⟨rfl, by decide⟩))).tr e2
        rw [show 4 * j + 3 + 1 = 4 * j + 4 by omega] at f0
        rw [f0]
        rcases e4 with ⟨rfl, p', g1, g2⟩ | ⟨rfl, g1, g2, g3, g4, g5⟩
        · refine ⟨0, μ1, un _ ?_ (Or.inl hend), x1, Or.inl ⟨rfl, p', g1, g2⟩⟩
          rw [sg, bnd_s, if_neg (by decide), e1, bnd_s, if_pos rfl]
        · obtain ⟨r', μ2, d1, d2, d3⟩ := ih fuel (j + 1) μ1 (by omega) (by omega) (by omega) (by rw [g3, show 4 * (j + 1) + 3 = 4 * j + 7 by omega]) g4 x1 (fun q hq => by
            by_cases e : q = j
            · rw [e]; exact g5
            · rw [e3 _ (by omega), e3 _ (by omega), e3 _ (by omega), up2_n _ _ _ (show 38 ≠ 31 by decide)]
              exact hI q (by omega))
          rw [show 4 * (j + 1) + 3 = 4 * j + 7 by omega, ← g1] at d3
          refine ⟨r', μ2, un _ ?_ (Or.inl hend), d2, d3⟩
          rw [sg, bnd_s, if_neg (by decide), e1, bnd_s, if_neg (by decide), d1]
      · rw [decide_eq_false hs, if_neg (by decide)] at f0
        rw [if_neg hs] at sg
        refine ⟨0, μ, un _ ?_ (Or.inl hend), hX, Or.inl ⟨rfl, 4 * j + 3, f0, h11⟩⟩
        rw [sg, bnd_s, if_pos rfl]
theorem X6_readWall {T : Nat → Int32} {b n : Nat} (hb : b + n ≤ 240) {μ : Mem} (h11 : μ 31 11 = nI b) (hc : ∀ q, q < n → μ 34 (b + q) = T q) :
    ∃ r μ', fX6_readWall (nI (b + n)) μ = some (r, μ') ∧ Ex [38] [11, 12, 13, 14] μ μ' ∧ ((r = 0 ∧ ∃ p', FF T n 0 = some p' ∧ μ' 31 11 = nI (b + p')) ∨ (r = 1 ∧ FF T n 0 = none ∧ μ' 31 12 = T 1 - 48 ∧ μ' 31 13 = T 2 - 48 ∧ ∃ L, L ≤ 6 ∧ n = 4 * L + 3 ∧ μ' 31 14 = nI L ∧ ∀ q, q < L → (μ' 38 (3 * q), μ' 38 (3 * q + 1), μ' 38 (3 * q + 2)) = lay T q)) := by
  have xf : ∀ (ν : Mem) (k : Nat) (v : Int32), 11 ≤ k ∧ k ≤ 14 → Ex [38] [11, 12, 13, 14] ν (up2 ν 31 k v) := fun ν k v h => Ex.up _ _ (Or.inr ⟨rfl, by
    obtain ⟨h1, h2⟩ := h
    have : k = 11 ∨ k = 12 ∨ k = 13 ∨ k = 14 := by omega
    rcases this with rfl | rfl | rfl | rfl <;> decide⟩)
  have n34 : ∀ (ν : Mem) (k : Nat) (v : Int32), up2 ν 31 k v 34 = ν 34 := fun ν k v => up2_n _ _ _ (by decide)
  unfold fX6_readWall
  rw [ltm_e]
  generalize hμA : up2 μ 31 14 0 = μA
  have xA : Ex [38] [11, 12, 13, 14] μ μA := by rw [← hμA]; exact xf _ _ _ (by omega)
  have A11 : μA 31 11 = nI (b + 0) := by rw [← hμA, up2_kn _ _ (by decide)]; exact h11
  have A14 : μA 31 14 = nI 0 := by rw [← hμA, up2_ks]; rfl
  have A34 : ∀ q, q < n → μA 34 (b + q) = T q := fun q hq => by rw [← hμA, n34]; exact hc q hq
  by_cases hn : n = 0
  · subst hn
    refine ⟨0, μA, ?_, xA, Or.inl ⟨rfl, 0, ?_, A11⟩⟩
    · rw [X6_isSign_end A11, bnd_s, if_pos rfl]
    · rw [FF_end, if_pos (by decide)]
  · have sg := X6_isSign_eq (s := 119) A11 hb (by omega)
    rw [A34 0 (by omega)] at sg
    have f0 := FF_st (T := T) (show 0 < n by omega)
    rw [show gnF 0 (T 0) = decide (T 0 = 119) from rfl] at f0
    rw [sg]
    by_cases hs : T 0 = 119
    · rw [decide_eq_true hs, if_pos rfl] at f0
      rw [if_pos hs, bnd_s, if_neg (by decide), f0]
      generalize hμB : up2 μA 31 11 (nI (b + 0 + 1)) = μB
      have xB : Ex [38] [11, 12, 13, 14] μ μB := by rw [← hμB]; exact xA.tr (xf _ _ _ (by omega))
      have B11 : μB 31 11 = nI (b + 1) := by rw [← hμB, up2_ks]
      have B14 : μB 31 14 = nI 0 := by rw [← hμB, up2_kn _ _ (by decide)]; exact A14
      have B34 : ∀ q, q < n → μB 34 (b + q) = T q := fun q hq => by rw [← hμB, n34]; exact A34 q hq
      rcases dig_step (T := T) (p := 1) B11 hb (by omega) B34 (fun c => rfl) (Or.inl (by omega)) with ⟨q1, q2⟩ | ⟨q1, q2, q3, q4⟩
      · refine ⟨0, up2 μB 31 12 (-9), ?_, xB.tr (xf _ _ _ (by omega)), Or.inl ⟨rfl, 1, q1, by rw [up2_kn _ _ (by decide)]; exact B11⟩⟩
        rw [q2, bnd_s, ltm_e, up2_ks, if_pos rfl]
      · rw [show FF T n (0 + 1) = FF T n (1 + 1) from q3, q4, bnd_s, ltm_e, up2_ks, if_neg (okD_ne q2)]
        generalize hμC : up2 (up2 μB 31 11 (nI (b + (1 + 1)))) 31 12 (T 1 - 48) = μC
        have xC : Ex [38] [11, 12, 13, 14] μ μC := by rw [← hμC]; exact xB.tr ((xf _ _ _ (by omega)).tr (xf _ _ _ (by omega)))
        have C11 : μC 31 11 = nI (b + 2) := by rw [← hμC, up2_kn _ _ (by decide), up2_ks]
        have C12 : μC 31 12 = T 1 - 48 := by rw [← hμC, up2_ks]
        have C14 : μC 31 14 = nI 0 := by rw [← hμC, up2_kn _ _ (by decide), up2_kn _ _ (by decide)]; exact B14
        have C34 : ∀ q, q < n → μC 34 (b + q) = T q := fun q hq => by rw [← hμC, n34, n34]; exact B34 q hq
        rcases dig_step (T := T) (p := 2) C11 hb (by omega) C34 (fun c => rfl) (Or.inl (by omega)) with ⟨w1, w2⟩ | ⟨w1, w2, w3, w4⟩
        · refine ⟨0, up2 μC 31 13 (-9), ?_, xC.tr (xf _ _ _ (by omega)), Or.inl ⟨rfl, 2, w1, by rw [up2_kn _ _ (by decide)]; exact C11⟩⟩
          rw [w2, bnd_s, ltm_e, up2_ks, if_pos rfl]
        · rw [show FF T n (1 + 1) = FF T n (2 + 1) from w3, w4, bnd_s, ltm_e, up2_ks, if_neg (okD_ne w2)]
          generalize hμD : up2 (up2 μC 31 11 (nI (b + (2 + 1)))) 31 13 (T 2 - 48) = μD
          have xD : Ex [38] [11, 12, 13, 14] μ μD := by rw [← hμD]; exact xC.tr ((xf _ _ _ (by omega)).tr (xf _ _ _ (by omega)))
          have D11 : μD 31 11 = nI (b + (4 * 0 + 3)) := by rw [← hμD, up2_kn _ _ (by decide), up2_ks]
          have D12 : μD 31 12 = T 1 - 48 := by rw [← hμD, up2_kn _ _ (by decide), up2_kn _ _ (by decide)]; exact C12
          have D13 : μD 31 13 = T 2 - 48 := by rw [← hμD, up2_ks]
          have D14 : μD 31 14 = nI 0 := by rw [← hμD, up2_kn _ _ (by decide), up2_kn _ _ (by decide)]; exact C14
          have D34 : ∀ q, q < n → μD 34 (b + q) = T q := fun q hq => by rw [← hμD, n34, n34]; exact C34 q hq
          obtain ⟨r, μ', e1, e2, e3⟩ := X6_layers_L (T := T) hb D34 6 FU 0 μD (by omega) (by decide) (by omega) D11 D14 Ex.rf (fun q hq => absurd hq (by omega))
          refine ⟨r, μ', e1, xD.tr (e2.mono (by decide) (by decide)), ?_⟩
          rcases e3 with h | ⟨h1, h2, h3⟩
          · exact Or.inl h
          · exact Or.inr ⟨h1, h2, (e2.2 12 (by decide)).trans D12, (e2.2 13 (by decide)).trans D13, h3⟩
    · rw [decide_eq_false hs, if_neg (by decide)] at f0
      rw [if_neg hs, bnd_s, if_pos rfl]
      exact ⟨0, μA, rfl, xA, Or.inl ⟨rfl, 0, f0, A11⟩⟩
