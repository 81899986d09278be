/-! PURE: walls that are written -/
theorem up2_ks (μ : Mem) (i k : Nat) (v : Int32) : up2 μ i k v i k = v := by rw [up2_s]; exact if_pos rfl
theorem up2_kn (μ : Mem) {i k b : Nat} (v : Int32) (h : b ≠ k) : up2 μ i k v i b = μ i b := by rw [up2_s]; exact if_neg h
theorem up2_ap (μ : Mem) (i k a b : Nat) (v : Int32) : up2 μ i k v a b = if a = i ∧ b = k then v else μ a b := by
  by_cases ha : a = i
  · subst ha
    by_cases hb : b = k
    · subst hb; rw [up2_ks, if_pos ⟨rfl, rfl⟩]
    · rw [up2_kn _ _ hb, if_neg (fun z => hb z.2)]
  · rw [up2_n _ _ _ ha, if_neg (fun z => ha z.1)]
def put3 (μ : Mem) (i : Nat) (t : LT) : Mem := up2 (up2 (up2 μ i 0 t.1) i 1 t.2.1) i 2 t.2.2
theorem put3_n (μ : Mem) {i a : Nat} (t : LT) (h : a ≠ i) : put3 μ i t a = μ a := by
  unfold put3
  rw [up2_n _ _ _ h, up2_n _ _ _ h, up2_n _ _ _ h]
theorem put3_s (μ : Mem) (i : Nat) (t : LT) : (put3 μ i t i 0, put3 μ i t i 1, put3 μ i t i 2) = t := by
  unfold put3
  simp [up2_ap]
theorem X0_become (i : Nat) (a b c : Int32) (μ : Mem) : fX0_become i a b c μ = some ((), put3 μ i (a, b, c)) := rfl
theorem X0_becomeLike (i j : Nat) (μ : Mem) : fX0_becomeLike i j μ = some ((), put3 μ i (μ j 0, μ j 1, μ j 2)) := rfl
/-- layer j of the wall w -/
def tx (μ : Mem) (w j : Nat) : LT := (μ (w + 1 + 1 + j) 0, μ (w + 1 + 1 + j) 1, μ (w + 1 + 1 + j) 2)
def tm (μ : Mem) (j : Nat) : LT := (μ 35 j, μ 36 j, μ 37 j)
theorem tx_put (μ : Mem) (w j k : Nat) (t : LT) : tx (put3 μ (w + 1 + 1 + k) t) w j = if j = k then t else tx μ w j := by
  unfold tx
  by_cases h : j = k
  · subst h; rw [put3_s, if_pos rfl]
  · rw [put3_n _ _ (by omega), if_neg h]
theorem tx_w (μ : Mem) (w b j : Nat) (v : Int32) : tx (up2 μ w b v) w j = tx μ w j := by
  unfold tx
  rw [up2_n _ _ _ (by omega)]
/-- nothing but the wall w has changed -/
def FrW (μ μ' : Mem) (w : Nat) : Prop := ∀ i, (i < w ∨ w + 8 ≤ i) → μ' i = μ i
theorem FrW.rf {μ : Mem} {w : Nat} : FrW μ μ w := fun _ _ => rfl
theorem FrW.tr {μ μ1 μ2 : Mem} {w : Nat} (h : FrW μ μ1 w) (h2 : FrW μ1 μ2 w) : FrW μ μ2 w := fun i hi => (h2 i hi).trans (h i hi)
theorem FrW.w (μ : Mem) (w b : Nat) (v : Int32) : FrW μ (up2 μ w b v) w := fun i hi => up2_n _ _ _ (by omega)
theorem FrW.p (μ : Mem) (w : Nat) {k : Nat} (t : LT) (h : k < 6) : FrW μ (put3 μ (w + 1 + 1 + k) t) w := fun i hi => put3_n _ _ (by omega)
theorem sub1 {k : Nat} (h : 0 < k) : nI k - 1 = nI (k - 1) := by
  obtain ⟨j, rfl⟩ : ∃ j, k = j + 1 := ⟨k - 1, by omega⟩
  rw [nI_pred]
  rfl
theorem add_m1 {k : Nat} (h : 0 < k) : nI k + (-1) = nI (k - 1) := by
  obtain ⟨j, rfl⟩ : ∃ j, k = j + 1 := ⟨k - 1, by omega⟩
  rw [pk_m1]
  rfl
theorem X4_lay_L {w : Nat} {t : LT} {ls : List LT} (h6 : ls.length < 6) : ∀ (fuel k : Nat) (μ : Mem), k < fuel → k ≤ ls.length → μ w 1 = nI ls.length → (∀ j, j < ls.length → j ≤ k → tx μ w j = lyr ls j) → (∀ j, k < j → j ≤ ls.length → tx μ w j = lyr ls (j - 1)) →
    ∃ μ', fX4_layOnTop_L17 w t.1 t.2.1 t.2.2 fuel (nI k) μ = some (1, μ') ∧ μ' w 1 = nI (ls.length + 1) ∧ (∀ j, j ≤ ls.length → tx μ' w j = lyr (t :: ls) j) ∧ (∀ b, b ≠ 1 → μ' w b = μ w b) ∧ FrW μ μ' w := by
  intro fuel
  induction fuel with
  | zero => intro k μ h; omega
  | succ fuel ih =>
    intro k μ hf hk hc hlo hhi
    show ∃ μ', sX4_layOnTop_L17 (fX4_layOnTop_L17 w t.1 t.2.1 t.2.2 fuel) w t.1 t.2.1 t.2.2 (nI k) μ = some (1, μ') ∧ _
    unfold sX4_layOnTop_L17
    by_cases hk0 : k = 0
    · subst hk0
      rw [if_pos (show nI 0 ≤ 0 from by decide), if_pos (show inb (0 : Int32) 6 from by decide), X0_become, bnd_s, show (0 : Int32).toNatClampNeg = 0 from by decide]
      refine ⟨_, rfl, ?_, ?_, ?_, ?_⟩
      · rw [up2_ks, put3_n _ _ (by omega), hc, nI_1]
      · intro j hj
        rw [tx_w, tx_put]
        cases j with
        | zero => rw [if_pos rfl]; rfl
        | succ j => rw [if_neg (by omega), hhi (j + 1) (by omega) hj]; rfl
      · intro b hb
        rw [up2_kn _ _ hb, put3_n _ _ (by omega)]
      · exact (FrW.p μ w _ (by decide)).tr (FrW.w _ w 1 _)
    · rw [if_neg (show ¬ nI k ≤ 0 from fun z => hk0 (by have := (le_nI (a := k) (b := 0) (by omega) (by omega)).mp z; omega)), if_pos (inb_nI (by omega) (by omega)), sub1 (by omega), if_pos (inb_nI (by omega) (by omega)), X0_becomeLike, bnd_s, cl_nI (by omega), cl_nI (by omega)]
      show ∃ μ', fX4_layOnTop_L17 w t.1 t.2.1 t.2.2 fuel (nI k + (-1)) _ = _ ∧ _
      rw [add_m1 (by omega)]
      obtain ⟨μ', e1, e2, e3, e4, e5⟩ := ih (k - 1) (put3 μ (w + 1 + 1 + k) (μ (w + 1 + 1 + (k - 1)) 0, μ (w + 1 + 1 + (k - 1)) 1, μ (w + 1 + 1 + (k - 1)) 2)) (by omega) (by omega) (by rw [put3_n _ _ (by omega)]; exact hc)
        (fun j h1 h2 => by rw [tx_put, if_neg (by omega)]; exact hlo j h1 (by omega))
        (fun j h1 h2 => by
          rw [tx_put]
          by_cases hjk : j = k
          · subst hjk
            rw [if_pos rfl]
            exact hlo (j - 1) (by omega) (by omega)
          · rw [if_neg hjk]
            exact hhi j (by omega) h2)
      refine ⟨μ', e1, e2, e3, fun b hb => ?_, (FrW.p μ w _ (by omega)).tr e5⟩
      rw [e4 b hb, put3_n _ _ (by omega)]
theorem X4_layOnTop {μ : Mem} {w : Nat} {ls : List LT} {wm dm : Int32} (h : IsW μ w ls wm dm) (t : LT) (hl : ls.length < 6) : ∃ μ', fX4_layOnTop w t.1 t.2.1 t.2.2 μ = some (1, μ') ∧ IsW μ' w (t :: ls) wm dm ∧ FrW μ μ' w := by
  obtain ⟨h6, hc, h2, h3, hj⟩ := h
  unfold fX4_layOnTop
  rw [hc, if_pos (show nI ls.length < 6 from (lt_nI (b := 6) (by omega) (by omega)).mpr hl)]
  show ∃ μ', fX4_layOnTop_L17 w t.1 t.2.1 t.2.2 FU (nI ls.length) μ = _ ∧ _
  obtain ⟨μ', e1, e2, e3, e4, e5⟩ := X4_lay_L (w := w) (t := t) hl FU ls.length μ (by show _ < 1000; omega) (Nat.le_refl _) hc (fun j h1 _ => hj j h1) (fun j h1 h2 => by omega)
  refine ⟨μ', e1, ⟨by rw [List.length_cons]; omega, by rw [e2, List.length_cons], ?_, ?_, fun j h1 => e3 j (by rw [List.length_cons] at h1; omega)⟩, e5⟩
  · rw [e4 2 (by decide)]; exact h2
  · rw [e4 3 (by decide)]; exact h3
theorem X4_layFull {μ : Mem} {w : Nat} {ls : List LT} {wm dm : Int32} (h : IsW μ w ls wm dm) (a b c : Int32) (hl : ls.length = 6) : fX4_layOnTop w a b c μ = some (0, μ) := by
  unfold fX4_layOnTop
  rw [h.2.1, hl, if_neg (show ¬ nI 6 < 6 from by decide)]
theorem X4_peel_L {w : Nat} {ls : List LT} (h6 : ls.length ≤ 6) : ∀ (fuel k : Nat) (μ : Mem), ls.length < k + fuel → 1 ≤ k → k ≤ ls.length → μ w 1 = nI ls.length → (∀ j, j + 1 < k → tx μ w j = lyr ls (j + 1)) → (∀ j, k ≤ j + 1 → j < ls.length → (k = j + 1 ∨ tx μ w j = lyr ls j)) →
    ∃ μ', fX4_peelTop_L23 w fuel (nI k) μ = some (1, μ') ∧ μ' w 1 = nI (ls.length - 1) ∧ (∀ j, j + 1 < ls.length → tx μ' w j = lyr ls (j + 1)) ∧ (∀ b, b ≠ 1 → μ' w b = μ w b) ∧ FrW μ μ' w := by
  intro fuel
  induction fuel with
  | zero => intro k μ h; omega
  | succ fuel ih =>
    intro k μ hf hk1 hk hc hlo hhi
    show ∃ μ', sX4_peelTop_L23 (fX4_peelTop_L23 w fuel) w (nI k) μ = some (1, μ') ∧ _
    unfold sX4_peelTop_L23
    rw [hc]
    by_cases hkl : ls.length ≤ k
    · rw [if_pos ((le_nI (by omega) (by omega)).mpr hkl)]
      refine ⟨_, rfl, ?_, ?_, ?_, ?_⟩
      · rw [up2_ks, sub1 (by omega)]
      · intro j hj
        rw [tx_w]
        exact hlo j (by omega)
      · intro b hb
        rw [up2_kn _ _ hb]
      · exact FrW.w _ w 1 _
    · rw [if_neg (fun z => hkl ((le_nI (by omega) (by omega)).mp z)), sub1 (by omega), if_pos (inb_nI (by omega) (by omega)), if_pos (inb_nI (by omega) (by omega)), X0_becomeLike, bnd_s, cl_nI (by omega), cl_nI (by omega)]
      show ∃ μ', fX4_peelTop_L23 w fuel (nI k + 1) _ = _ ∧ _
      rw [nI_1]
      have htk : tx μ w k = lyr ls k := by
        rcases hhi k (by omega) (by omega) with z | z
        · omega
        · exact z
      obtain ⟨μ', e1, e2, e3, e4, e5⟩ := ih (k + 1) (put3 μ (w + 1 + 1 + (k - 1)) (μ (w + 1 + 1 + k) 0, μ (w + 1 + 1 + k) 1, μ (w + 1 + 1 + k) 2)) (by omega) (by omega) (by omega) (by rw [put3_n _ _ (by omega)]; exact hc)
        (fun j h1 => by
          rw [tx_put]
          by_cases hjk : j = k - 1
          · subst hjk
            rw [if_pos rfl, show k - 1 + 1 = k by omega]
            exact htk
          · rw [if_neg hjk]
            exact hlo j (by omega))
        (fun j h1 h2 => by
          by_cases hjk : k + 1 = j + 1
          · exact Or.inl hjk
          · refine Or.inr ?_
            rw [tx_put, if_neg (by omega)]
            rcases hhi j (by omega) h2 with z | z
            · omega
            · exact z)
      refine ⟨μ', e1, e2, e3, fun b hb => ?_, (FrW.p μ w _ (by omega)).tr e5⟩
      rw [e4 b hb, put3_n _ _ (by omega)]
theorem lyr_tail {ls : List LT} (j : Nat) : lyr ls.tail j = lyr ls (j + 1) := by
  cases ls <;> rfl
theorem X4_peelYes {μ : Mem} {w : Nat} {ls : List LT} {wm dm : Int32} (h : IsW μ w ls wm dm) (h2 : 2 ≤ ls.length) (hl : (lft (wm - dm) ls).length ≠ 0) : ∃ μ', fX4_peelTop w μ = some (1, μ') ∧ IsW μ' w ls.tail wm dm ∧ FrW μ μ' w := by
  have hW := h
  obtain ⟨h6, hc, hw2, hw3, hj⟩ := h
  unfold fX4_peelTop
  rw [hc, if_neg (show ¬ nI ls.length < 2 from fun z => absurd ((lt_nI (b := 2) (by omega) (by omega)).mp z) (by omega))]
  show ∃ μ', bnd (some (μ w 2 - μ w 3, μ)) _ = _ ∧ _
  have hll : (lft (wm - dm) ls).length ≤ ls.length := tw_len ls
  rw [bnd_s, hw2, hw3, X4_liftedBy hW, bnd_s, if_neg (show ¬ nI _ = 0 from fun z => hl ((nI_eq (b := 0) (by omega) (by omega)).mp z))]
  obtain ⟨μ', e1, e2, e3, e4, e5⟩ := X4_peel_L (w := w) h6 FU 1 μ (by show _ < 1 + 1000; omega) (Nat.le_refl _) (by omega) hc (fun j h1 => by omega) (fun j h1 h2 => Or.inr (hj j h2))
  refine ⟨μ', e1, ⟨by rw [List.length_tail]; omega, by rw [e2, List.length_tail], ?_, ?_, fun j h1 => ?_⟩, e5⟩
  · rw [e4 2 (by decide)]; exact hw2
  · rw [e4 3 (by decide)]; exact hw3
  · rw [List.length_tail] at h1
    rw [lyr_tail]
    exact e3 j (by omega)
theorem X4_peelNo {μ : Mem} {w : Nat} {ls : List LT} {wm dm : Int32} (h : IsW μ w ls wm dm) (h2 : ls.length < 2 ∨ (lft (wm - dm) ls).length = 0) : fX4_peelTop w μ = some (0, μ) := by
  have hW := h
  obtain ⟨h6, hc, hw2, hw3, hj⟩ := h
  unfold fX4_peelTop
  rw [hc]
  by_cases hl : ls.length < 2
  · rw [if_pos (show nI ls.length < 2 from (lt_nI (b := 2) (by omega) (by omega)).mpr hl)]
  · rw [if_neg (show ¬ nI ls.length < 2 from fun z => absurd ((lt_nI (b := 2) (by omega) (by omega)).mp z) hl)]
    show bnd (some (μ w 2 - μ w 3, μ)) _ = _
    rcases h2 with h2 | h2
    · exact absurd h2 hl
    · rw [bnd_s, hw2, hw3, X4_liftedBy hW, bnd_s, h2, if_pos (show nI 0 = 0 from rfl)]
/-! walls that are made out of another -/
theorem X4_begin (w : Nat) (a b : Int32) (μ : Mem) : ∃ μ', fX4_begin w a b μ = some ((), μ') ∧ IsW μ' w [] a b ∧ FrW μ μ' w := by
  refine ⟨_, rfl, ⟨by decide, ?_, ?_, ?_, fun j h => absurd h (by simp)⟩, ((FrW.w μ w 1 _).tr (FrW.w _ w 2 _)).tr (FrW.w _ w 3 _)⟩
  · simp [up2_ap]; rfl
  · simp [up2_ap]
  · simp [up2_ap]
theorem lyr_app {ls : List LT} {t : LT} {j : Nat} : lyr (ls ++ [t]) j = if j < ls.length then lyr ls j else if j = ls.length then t else dL := by
  unfold lyr
  rw [List.getD_eq_getElem?_getD, List.getD_eq_getElem?_getD]
  by_cases h : j < ls.length
  · rw [if_pos h, List.getElem?_append_left h]
  · rw [if_neg h, List.getElem?_append_right (by omega)]
    by_cases h2 : j = ls.length
    · subst h2; simp
    · rw [if_neg h2, List.getElem?_eq_none (by simp; omega)]
      rfl
theorem X4_addBelow {μ : Mem} {w : Nat} {ls : List LT} {wm dm : Int32} (h : IsW μ w ls wm dm) (t : LT) (hl : ls.length < 6) : ∃ μ', fX4_addBelow w t.1 t.2.1 t.2.2 μ = some ((), μ') ∧ IsW μ' w (ls ++ [t]) wm dm ∧ FrW μ μ' w := by
  obtain ⟨h6, hc, h2, h3, hj⟩ := h
  unfold fX4_addBelow
  rw [hc, if_neg (show ¬ 6 ≤ nI ls.length from fun z => absurd ((le_nI (a := 6) (by omega) (by omega)).mp z) (by omega)), if_pos (inb_nI hl (by omega)), X0_become, bnd_s, cl_nI (by omega)]
  refine ⟨_, rfl, ⟨by simp; omega, ?_, ?_, ?_, fun j h1 => ?_⟩, (FrW.p μ w _ hl).tr (FrW.w _ w 1 _)⟩
  · rw [up2_ks, put3_n _ _ (by omega), hc, nI_1, List.length_append]
    rfl
  · rw [up2_kn _ _ (by decide), put3_n _ _ (by omega)]; exact h2
  · rw [up2_kn _ _ (by decide), put3_n _ _ (by omega)]; exact h3
  · show tx (up2 _ w 1 _) w j = _
    rw [tx_w, tx_put, lyr_app]
    by_cases hjl : j = ls.length
    · rw [if_pos hjl, if_neg (by omega), if_pos hjl]
    · have : j < ls.length := by simp at h1; omega
      rw [if_neg hjl, if_pos this]
      exact hj j this
theorem X4_layerAt {μ : Mem} {w : Nat} {ls : List LT} {wm dm : Int32} (h : IsW μ w ls wm dm) {k : Nat} (hk : k < ls.length) : fX4_layerAt w (nI k) μ = some (some (w + 1 + 1 + k), μ) := by
  obtain ⟨h6, hc, -⟩ := h
  unfold fX4_layerAt
  rw [hc, if_neg (show ¬ nI k < 0 from fun z => absurd ((lt_nI (b := 0) (by omega) (by omega)).mp z) (by omega)), if_neg (fun z => absurd ((le_nI (by omega) (by omega)).mp z) (by omega)), if_neg (show ¬ 6 ≤ nI k from fun z => absurd ((le_nI (a := 6) (by omega) (by omega)).mp z) (by omega)), if_pos (inb_nI (by omega) (by omega)), cl_nI (by omega)]
theorem X4_layerNo {μ : Mem} {w : Nat} {ls : List LT} {wm dm : Int32} (h : IsW μ w ls wm dm) {x : Int32} (hk : ∀ k, k < ls.length → x ≠ nI k) : fX4_layerAt w x μ = some (none, μ) := by
  obtain ⟨h6, hc, -⟩ := h
  unfold fX4_layerAt
  rcases pk_ix x (n := ls.length) (by omega) with h1 | h1 | ⟨j, hj, h1⟩
  · rw [if_pos h1]
  · by_cases h0 : x < 0
    · rw [if_pos h0]
    · rw [if_neg h0, hc, if_pos h1]
  · exact absurd h1 (hk j hj)
