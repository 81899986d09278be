/-! PURE: wall, the text -/
def kdF (c : Int32) : Int32 := if c = 114 then 2 else if c = 115 then 0 else if c = 116 then 1 else -9
theorem kindOf_eq (c : Int32) (μ : Mem) : fX5_kindOf c μ = some (kdF c, μ) := by
  unfold fX5_kindOf kdF
  by_cases h1 : c = 114
  · rw [if_pos h1, if_pos h1]
  · rw [if_neg h1, if_neg h1]
    by_cases h2 : c = 115
    · rw [if_pos h2, if_pos h2]
    · rw [if_neg h2, if_neg h2]
      by_cases h3 : c = 116
      · rw [if_pos h3, if_pos h3]
      · rw [if_neg h3, if_neg h3]
theorem kdF_cs (c : Int32) : kdF c = 0 ∨ kdF c = 1 ∨ kdF c = 2 ∨ kdF c = -9 := by
  unfold kdF
  by_cases h1 : c = 114
  · rw [if_pos h1]; decide
  · rw [if_neg h1]
    by_cases h2 : c = 115
    · rw [if_pos h2]; decide
    · rw [if_neg h2]
      by_cases h3 : c = 116
      · rw [if_pos h3]; decide
      · rw [if_neg h3]; decide
def dgF (c : Int32) : Bool := !decide (c < 48) && !decide (57 < c)
theorem dg_if (c : Int32) (μ : Mem) : (if c < (48 : Int32) then some ((0 : Int32), μ) else (if (57 : Int32) < c then some ((0 : Int32), μ) else some ((1 : Int32), μ))) = some (zo (dgF c), μ) := by
  unfold dgF
  by_cases h1 : c < 48
  · rw [if_pos h1, decide_eq_true h1]; rfl
  · rw [if_neg h1, decide_eq_false h1]
    by_cases h2 : 57 < c
    · rw [if_pos h2, decide_eq_true h2]; rfl
    · rw [if_neg h2, decide_eq_false h2]; rfl
theorem X5_isDigit_eq (c : Int32) (μ : Mem) : fX5_isDigit c μ = some (zo (dgF c), μ) := dg_if c μ
theorem X6_dig_eq (c : Int32) (μ : Mem) : fX6_within c 48 57 μ = some (zo (dgF c), μ) := dg_if c μ
theorem dgF_ok {c : Int32} (h : dgF c = true) : okD (c - 48) := by
  unfold dgF at h
  simp only [Bool.and_eq_true, Bool.not_eq_true', decide_eq_false_iff_not] at h
  obtain ⟨h1, h2⟩ := h
  have h0 : ¬ c < 0 := fun z => h1 (by
    rw [Int32.lt_iff_toInt_lt] at z ⊢
    have e0 : (0 : Int32).toInt = 0 := by decide
    have e1 : (48 : Int32).toInt = 48 := by decide
    omega)
  obtain ⟨j, hj, rfl⟩ := nI_of h0
  have g1 : 48 ≤ j := by
    rcases Nat.lt_or_ge j 48 with q | q
    · exact absurd ((lt_nI (b := 48) hj (by omega)).mpr q) h1
    · exact q
  have g2 : j ≤ 57 := by
    rcases Nat.lt_or_ge 57 j with q | q
    · exact absurd ((lt_nI (a := 57) (by omega) hj).mpr q) h2
    · exact q
  exact ⟨j - 48, by omega, pk_sub (b := 48) g1⟩
theorem okD_ne {x : Int32} (h : okD x) : ¬ x = -9 := by
  obtain ⟨j, hj, rfl⟩ := h
  exact enO_ne (by omega)
def gnF (p : Nat) (c : Int32) : Bool := if p = 0 then decide (c = 119) else if 3 ≤ p then (if (p - 3) % 4 = 0 then decide (c = 59) && decide ((p - 3) / 4 < 6) else if (p - 3) % 4 = 1 then !decide (kdF c = -9) else dgF c) else dgF c
theorem goesOn_eq {p : Nat} (hp : p ≤ 60) (c : Int32) (μ : Mem) : fX5_goesOn (nI p) c μ = some (zo (gnF p c), μ) := by
  unfold fX5_goesOn gnF
  by_cases h0 : p = 0
  · rw [if_pos (show nI p = 0 from (zero_iff (by omega)).mpr h0), if_pos h0]
    by_cases hc : c = 119
    · rw [if_pos hc, decide_eq_true hc]; rfl
    · rw [if_neg hc, decide_eq_false hc]; rfl
  · rw [if_neg (show ¬ nI p = 0 from fun z => h0 ((zero_iff (by omega)).mp z)), if_neg h0]
    by_cases h3 : 3 ≤ p
    · have e3 : nI p - 3 = nI (p - 3) := pk_sub (b := 3) h3
      have er : nI (p - 3) - nI (p - 3) / 4 * 4 = nI ((p - 3) % 4) := pk_rem (d := 4) (by omega) (by omega) (by omega)
      have ed : nI (p - 3) / 4 = nI ((p - 3) / 4) := pk_div (d := 4) (by omega) (by omega) (by omega)
      have hm : (p - 3) % 4 < 4 := Nat.mod_lt _ (by omega)
      rw [if_pos (show (3 : Int32) ≤ nI p from (le_nI (a := 3) (by omega) (by omega)).mpr h3), if_pos h3, if_pos (by decide), lti_e, e3, er, ed]
      by_cases hr : (p - 3) % 4 = 0
      · rw [if_pos (show nI ((p - 3) % 4) = 0 from (zero_iff (by omega)).mpr hr), if_pos hr]
        by_cases hc : c = 59
        · rw [if_pos hc, decide_eq_true hc, if_pos (by decide)]
          by_cases hd : (p - 3) / 4 < 6
          · rw [if_neg (show ¬ (6 : Int32) ≤ nI ((p - 3) / 4) from fun z => absurd ((le_nI (a := 6) (by omega) (by omega)).mp z) (by omega)), decide_eq_true hd]; rfl
          · rw [if_pos (show (6 : Int32) ≤ nI ((p - 3) / 4) from (le_nI (a := 6) (by omega) (by omega)).mpr (by omega)), decide_eq_false hd]; rfl
        · rw [if_neg hc, decide_eq_false hc]; rfl
      · rw [if_neg (show ¬ nI ((p - 3) % 4) = 0 from fun z => hr ((zero_iff (by omega)).mp z)), if_neg hr]
        by_cases hr1 : (p - 3) % 4 = 1
        · rw [if_pos (show nI ((p - 3) % 4) = 1 from by rw [hr1]; rfl), if_pos hr1, kindOf_eq, bnd_s]
          by_cases hk : kdF c = -9
          · rw [if_pos hk, decide_eq_true hk]; rfl
          · rw [if_neg hk, decide_eq_false hk]; rfl
        · rw [if_neg (show ¬ nI ((p - 3) % 4) = 1 from fun z => hr1 ((nI_eq (b := 1) (by omega) (by omega)).mp z)), if_neg hr1, X5_isDigit_eq, bnd_s, if_pos (isb_zo _)]
    · rw [if_neg (show ¬ (3 : Int32) ≤ nI p from fun z => h3 ((le_nI (a := 3) (by omega) (by omega)).mp z)), if_neg h3, X5_isDigit_eq, bnd_s, if_pos (isb_zo _)]
def ffF (T : Nat → Int32) (n : Nat) : Nat → Nat → Option Nat
  | 0, _ => if n < 11 then some n else if (n - 3) % 4 = 0 then none else some n
  | m + 1, p => if gnF p (T p) then ffF T n m (p + 1) else some p
def FF (T : Nat → Int32) (n p : Nat) : Option Nat := ffF T n (n - p) p
theorem FF_st {T : Nat → Int32} {n p : Nat} (h : p < n) : FF T n p = if gnF p (T p) then FF T n (p + 1) else some p := by
  unfold FF
  rw [show n - p = n - (p + 1) + 1 by omega]
  rfl
theorem FF_end {T : Nat → Int32} {n : Nat} : FF T n n = if n < 11 then some n else if (n - 3) % 4 = 0 then none else some n := by
  unfold FF
  rw [Nat.sub_self]
  rfl
theorem FF_none {T : Nat → Int32} {n : Nat} : ∀ m p, p + m = n → FF T n p = none → (∀ q, p ≤ q → q < n → gnF q (T q) = true) ∧ 11 ≤ n ∧ (n - 3) % 4 = 0 := by
  intro m
  induction m with
  | zero =>
    intro p hp h
    have : p = n := by omega
    subst this
    rw [FF_end] at h
    refine ⟨fun q h1 h2 => by omega, ?_⟩
    by_cases h1 : p < 11
    · rw [if_pos h1] at h; exact absurd h (by simp)
    · rw [if_neg h1] at h
      by_cases h2 : (p - 3) % 4 = 0
      · exact ⟨by omega, h2⟩
      · rw [if_neg h2] at h; exact absurd h (by simp)
  | succ m ih =>
    intro p hp h
    rw [FF_st (by omega)] at h
    by_cases g : gnF p (T p) = true
    · rw [if_pos g] at h
      obtain ⟨a, b⟩ := ih (p + 1) (by omega) h
      refine ⟨fun q h1 h2 => ?_, b⟩
      by_cases e : q = p
      · rw [e]; exact g
      · exact a q (by omega) h2
    · rw [if_neg g] at h; exact absurd h (by simp)
theorem X5_ff_L {μ : Mem} {t len i n : Nat} {T : Nat → Int32} (h3 : μ t 3 = nI len) (hl : len ≤ 60) (hin : i + n ≤ len) (hT : ∀ q, q < n → μ (t + 4) (i + q) = T q) :
    ∀ (m fuel p : Nat), p + m = n → m < fuel → fX5_firstFault_L2 t (nI i) (nI n) fuel (nI p) μ = some (match FF T n p with | some q => nI q | none => -1, μ) := by
  intro m
  induction m with
  | zero =>
    intro fuel p hp hf
    obtain ⟨fuel, rfl⟩ : ∃ f, fuel = f + 1 := ⟨fuel - 1, by omega⟩
    have : p = n := by omega
    subst this
    show sX5_firstFault_L2 (fX5_firstFault_L2 t (nI i) (nI p) fuel) t (nI i) (nI p) (nI p) μ = _
    unfold sX5_firstFault_L2
    rw [if_pos ((le_nI (by omega) (by omega)).mpr (by omega)), FF_end]
    by_cases h1 : p < 11
    · rw [if_pos (show nI p < 11 from (lt_nI (b := 11) (by omega) (by omega)).mpr h1), if_pos h1]
    · have e3 : nI p - 3 = nI (p - 3) := pk_sub (b := 3) (by omega)
      have er : nI (p - 3) - nI (p - 3) / 4 * 4 = nI ((p - 3) % 4) := pk_rem (d := 4) (by omega) (by omega) (by omega)
      have hm : (p - 3) % 4 < 4 := Nat.mod_lt _ (by omega)
      rw [if_neg (show ¬ nI p < 11 from fun z => h1 ((lt_nI (b := 11) (by omega) (by omega)).mp z)), if_neg h1, if_pos (by decide), e3, er]
      by_cases h2 : (p - 3) % 4 = 0
      · rw [if_pos (show nI ((p - 3) % 4) = 0 from (zero_iff (by omega)).mpr h2), if_pos h2]
      · rw [if_neg (show ¬ nI ((p - 3) % 4) = 0 from fun z => h2 ((zero_iff (by omega)).mp z)), if_neg h2]
  | succ m ih =>
    intro fuel p hp hf
    obtain ⟨fuel, rfl⟩ : ∃ f, fuel = f + 1 := ⟨fuel - 1, by omega⟩
    show sX5_firstFault_L2 (fX5_firstFault_L2 t (nI i) (nI n) fuel) t (nI i) (nI n) (nI p) μ = _
    unfold sX5_firstFault_L2
    rw [if_neg (fun z => absurd ((le_nI (by omega) (by omega)).mp z) (by omega)), nI_add, getCell_eq h3 hl (by omega), bnd_s, hT p (by omega), goesOn_eq (by omega), bnd_s, FF_st (by omega), lti_e, nI_1]
    cases hg : gnF p (T p) with
    | true => rw [if_neg (show ¬ zo true = 0 from by decide), if_pos rfl]; exact ih fuel (p + 1) (by omega) (by omega)
    | false => rw [if_pos (show zo false = 0 from rfl), if_neg (by decide)]
theorem X6_isSign_eq {b n p : Nat} {s : Int32} {μ : Mem} (h11 : μ 31 11 = nI (b + p)) (hb : b + n ≤ 240) (hpn : p < n) : fX6_isSign (nI (b + n)) s μ = if μ 34 (b + p) = s then some (1, up2 μ 31 11 (nI (b + p + 1))) else some (0, μ) := by
  unfold fX6_isSign
  rw [h11, if_neg (fun z => absurd ((le_nI (by omega) (by omega)).mp z) (by omega)), if_pos (inb_nI (by omega) (by omega)), cl_nI (by omega), ltm_e, show nI (b + p) + (1 : Int32) = nI (b + p + 1) from nI_add _ 1]
theorem X6_isSign_end {b n : Nat} {s : Int32} {μ : Mem} (h11 : μ 31 11 = nI (b + n)) : fX6_isSign (nI (b + n)) s μ = some (0, μ) := by
  unfold fX6_isSign
  rw [h11, if_pos (Int32.le_iff_toInt_le.mpr (Int.le_refl _))]
theorem X6_digit_eq {b n p : Nat} {μ : Mem} (h11 : μ 31 11 = nI (b + p)) (hb : b + n ≤ 240) (hpn : p < n) : fX6_digit (nI (b + n)) μ = if dgF (μ 34 (b + p)) = true then some (μ 34 (b + p) - 48, up2 μ 31 11 (nI (b + p + 1))) else some (-9, μ) := by
  unfold fX6_digit
  rw [h11, if_neg (fun z => absurd ((le_nI (by omega) (by omega)).mp z) (by omega)), if_pos (inb_nI (by omega) (by omega)), cl_nI (by omega), X6_dig_eq, bnd_s, h11, ltm_e, show nI (b + p) + (1 : Int32) = nI (b + p + 1) from nI_add _ 1, up2_ks, sub1 (by omega), Nat.add_sub_cancel, if_pos (inb_nI (by omega) (by omega)), cl_nI (by omega), up2_n _ _ _ (show 34 ≠ 31 by decide)]
  cases hg : dgF (μ 34 (b + p)) with
  | true => rw [if_neg (show ¬ zo true = 0 from by decide), if_pos rfl]
  | false => rw [if_pos (show zo false = 0 from rfl), if_neg (by decide)]
theorem X6_digit_end {b n : Nat} {μ : Mem} (h11 : μ 31 11 = nI (b + n)) : fX6_digit (nI (b + n)) μ = some (-9, μ) := by
  unfold fX6_digit
  rw [h11, if_pos (Int32.le_iff_toInt_le.mpr (Int.le_refl _))]
theorem dig_step {b n p : Nat} {T : Nat → Int32} {μ : Mem} (h11 : μ 31 11 = nI (b + p)) (hb : b + n ≤ 240) (hpn : p ≤ n) (hc : ∀ q, q < n → μ 34 (b + q) = T q) (hg : ∀ c, gnF p c = dgF c) (he : p < 11 ∨ (p - 3) % 4 ≠ 0) :
    (FF T n p = some p ∧ fX6_digit (nI (b + n)) μ = some (-9, μ)) ∨ (p < n ∧ okD (T p - 48) ∧ FF T n p = FF T n (p + 1) ∧ fX6_digit (nI (b + n)) μ = some (T p - 48, up2 μ 31 11 (nI (b + (p + 1))))) := by
  by_cases h : p = n
  · subst h
    refine Or.inl ⟨?_, X6_digit_end h11⟩
    rw [FF_end]
    by_cases h1 : p < 11
    · rw [if_pos h1]
    · rw [if_neg h1, if_neg (by omega)]
  · have hl : p < n := by omega
    rw [X6_digit_eq h11 hb hl, hc p hl, FF_st hl, hg]
    cases hd : dgF (T p) with
    | true => exact Or.inr ⟨hl, dgF_ok hd, if_pos rfl, by rw [if_pos rfl, Nat.add_assoc]⟩
    | false => exact Or.inl ⟨if_neg (by decide), if_neg (by decide)⟩
