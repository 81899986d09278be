/-! THE RELATION: class and reference hold the same -/
def okS (μ : Mem) (k : Nat) : Prop := ((μ (22 + 1 + k) 1 = 0 ∧ μ 32 k = -9) ∨ (μ (22 + 1 + k) 1 = 1 ∧ μ 32 k = μ (22 + 1 + k) 2 ∧ (∃ v, v ≤ 2 ∧ μ (22 + 1 + k) 2 = nI v) ∧ ∃ n, n ≤ 60 ∧ μ (22 + 1 + k) 3 = nI n ∧ μ 33 k = nI n)) ∧ ∀ i, i < 60 → μ (22 + 1 + k + 4) i = μ 34 (60 * k + i)
def SH (μ : Mem) : Prop := ∀ k, k < 4 → okS μ k
def RR (μ : Mem) (ls : List LT) (wm dm : Int32) (rs : List RT) : Prop := (IsW μ 1 ls wm dm ∧ IsM μ ls wm dm ∧ okW ls) ∧ (IsRd μ rs ∧ IsRm μ rs) ∧ SH μ ∧ μ 0 5 = μ 31 1 ∧ μ 0 6 = μ 31 0
def Rx (μ : Mem) : Prop := ∃ ls wm dm rs, RR μ ls wm dm rs
theorem SH.fr {μ μ' : Mem} (h : SH μ) (hc : ∀ i, (23 ≤ i ∧ i ≤ 30 ∨ 32 ≤ i ∧ i ≤ 34) → μ' i = μ i) : SH μ' := by
  intro k hk
  have := h k hk
  unfold okS at *
  rw [hc 32 (by omega), hc 33 (by omega), hc 34 (by omega), hc (22 + 1 + k) (by omega), hc (22 + 1 + k + 4) (by omega)]
  exact this
theorem IsRd.fr {μ μ' : Mem} {rs : List RT} (h : IsRd μ rs) (h17 : μ' 17 = μ 17) (h18 : μ' 18 = μ 18) (h19 : μ' 19 = μ 19) : IsRd μ' rs := by
  unfold IsRd at *
  rw [h17, h18, h19]; exact h
theorem IsRm.fr {μ μ' : Mem} {rs : List RT} (h : IsRm μ rs) (h22 : μ' 31 22 = μ 31 22) (h41 : μ' 41 = μ 41) (h42 : μ' 42 = μ 42) (h43 : μ' 43 = μ 43) : IsRm μ' rs := by
  unfold IsRm at *
  rw [h22, h41, h42, h43]; exact h
/-- what the calls use to try things out has changed, no more -/
def Jk (μ μ' : Mem) : Prop := (∀ i, (i < 9 ∨ 17 ≤ i ∧ i ≤ 19 ∨ 22 ≤ i ∧ i ≤ 30 ∨ 32 ≤ i ∧ i ≤ 37 ∨ 41 ≤ i) → μ' i = μ i) ∧ ∀ f, f ∈ [0, 1, 5, 6, 7, 22] → μ' 31 f = μ 31 f
theorem Jk.rf {μ : Mem} : Jk μ μ := ⟨fun _ _ => rfl, fun _ _ => rfl⟩
theorem Jk.tr {μ μ1 μ2 : Mem} (h : Jk μ μ1) (h2 : Jk μ1 μ2) : Jk μ μ2 := ⟨fun i hi => (h2.1 i hi).trans (h.1 i hi), fun f hf => (h2.2 f hf).trans (h.2 f hf)⟩
theorem Jk.w9 {μ μ' : Mem} (h : FrW μ μ' 9) : Jk μ μ' := ⟨fun i hi => h i (by omega), fun f _ => by rw [h 31 (by omega)]⟩
theorem Jk.o39 {μ μ' : Mem} (h : ∀ i, i ≠ 39 → μ' i = μ i) : Jk μ μ' := ⟨fun i hi => h i (by omega), fun f _ => by rw [h 31 (by omega)]⟩
theorem IsW.jk {μ μ' : Mem} {ls : List LT} {wm dm : Int32} (h : IsW μ 1 ls wm dm) (j : Jk μ μ') : IsW μ' 1 ls wm dm := h.fr (fun i h1 h2 => j.1 i (by omega))
theorem IsM.jk {μ μ' : Mem} {ls : List LT} {wm dm : Int32} (h : IsM μ ls wm dm) (j : Jk μ μ') : IsM μ' ls wm dm := h.fr (j.2 5 (by decide)) (j.2 6 (by decide)) (j.2 7 (by decide)) (j.1 35 (by omega)) (j.1 36 (by omega)) (j.1 37 (by omega))
theorem IsRd.jk {μ μ' : Mem} {rs : List RT} (h : IsRd μ rs) (j : Jk μ μ') : IsRd μ' rs := h.fr (j.1 17 (by omega)) (j.1 18 (by omega)) (j.1 19 (by omega))
theorem IsRm.jk {μ μ' : Mem} {rs : List RT} (h : IsRm μ rs) (j : Jk μ μ') : IsRm μ' rs := h.fr (j.2 22 (by decide)) (j.1 41 (by omega)) (j.1 42 (by omega)) (j.1 43 (by omega))
theorem RR.jk {μ μ' : Mem} {ls : List LT} {wm dm : Int32} {rs : List RT} (h : RR μ ls wm dm rs) (j : Jk μ μ') : RR μ' ls wm dm rs := by
  obtain ⟨⟨a1, a2, a3⟩, ⟨b1, b2⟩, c, d, e⟩ := h
  refine ⟨⟨a1.jk j, a2.jk j, a3⟩, ⟨b1.jk j, b2.jk j⟩, c.fr (fun i hi => j.1 i (by omega)), ?_, ?_⟩
  · rw [j.1 0 (by omega), j.2 1 (by decide)]; exact d
  · rw [j.1 0 (by omega), j.2 0 (by decide)]; exact e
theorem RR.wall {μ μ' : Mem} {ls ls' : List LT} {wm dm wm' dm' : Int32} {rs : List RT} (h : RR μ ls wm dm rs) (hW : IsW μ' 1 ls' wm' dm') (hM : IsM μ' ls' wm' dm') (hk : okW ls') (hc : ∀ i, (i = 0 ∨ 17 ≤ i ∧ i ≤ 19 ∨ 22 ≤ i ∧ i ≤ 30 ∨ 32 ≤ i ∧ i ≤ 34 ∨ 41 ≤ i) → μ' i = μ i) (h0 : μ' 31 0 = μ 31 0) (h1 : μ' 31 1 = μ 31 1) (h22 : μ' 31 22 = μ 31 22) : RR μ' ls' wm' dm' rs := by
  obtain ⟨-, ⟨b1, b2⟩, c, d, e⟩ := h
  refine ⟨⟨hW, hM, hk⟩, ⟨b1.fr (hc 17 (by omega)) (hc 18 (by omega)) (hc 19 (by omega)), b2.fr h22 (hc 41 (by omega)) (hc 42 (by omega)) (hc 43 (by omega))⟩, c.fr (fun i hi => hc i (by omega)), ?_, ?_⟩
  · rw [hc 0 (by omega), h1]; exact d
  · rw [hc 0 (by omega), h0]; exact e
/-- a call on both, one behind the other -/
def St {α : Type} (f g : Mem → Option (α × Mem)) : Prop := ∀ μ, Rx μ → ∃ r μ1 μ2, f μ = some (r, μ1) ∧ g μ1 = some (r, μ2) ∧ Rx μ2
theorem St.jk {α : Type} {f g : Mem → Option (α × Mem)} (h : ∀ μ ls wm dm rs, RR μ ls wm dm rs → ∃ r μ1 μ2, f μ = some (r, μ1) ∧ Jk μ μ1 ∧ g μ1 = some (r, μ2) ∧ Jk μ1 μ2) : St f g := by
  rintro μ ⟨ls, wm, dm, rs, hR⟩
  obtain ⟨r, μ1, μ2, h1, h2, h3, h4⟩ := h μ ls wm dm rs hR
  exact ⟨r, μ1, μ2, h1, h3, ls, wm, dm, rs, (hR.jk h2).jk h4⟩
def zu (x m : Int32) : Int32 := if x < 0 then 0 else if m < x then 0 else 1
theorem isUpTo_eq (x m : Int32) (μ : Mem) : fX5_isUpTo x m μ = some (zu x m, μ) := by
  unfold fX5_isUpTo zu
  split
  · rfl
  · split <;> rfl
theorem within_eq (x m : Int32) (μ : Mem) : fX6_within x 0 m μ = some (zu x m, μ) := isUpTo_eq x m μ
theorem zu_b (x m : Int32) : isb (zu x m) := by
  unfold zu
  split
  · exact Or.inl rfl
  · split
    · exact Or.inl rfl
    · exact Or.inr rfl
theorem isDigit_eq (x : Int32) (μ : Mem) : fX6_isDigit x μ = some (zu x 9, μ) := by
  unfold fX6_isDigit
  rw [within_eq, bnd_s, if_pos (zu_b x 9)]
theorem isSheet_eq (x : Int32) (μ : Mem) : fX6_isSheet x μ = some (zu x 3, μ) := by
  unfold fX6_isSheet
  rw [within_eq, bnd_s, if_pos (zu_b x 3)]
theorem isSort_eq (x : Int32) (μ : Mem) : fX6_isSort x μ = some (zu x 2, μ) := by
  unfold fX6_isSort
  rw [within_eq, bnd_s, if_pos (zu_b x 2)]
theorem zu_cs (x : Int32) (m : Nat) (hm : m < 2 ^ 31) : zu x (nI m) = 0 ∨ zu x (nI m) = 1 ∧ ∃ j, j ≤ m ∧ x = nI j := by
  unfold zu
  by_cases h0 : x < 0
  · rw [if_pos h0]; exact Or.inl rfl
  · rw [if_neg h0]
    by_cases h1 : nI m < x
    · rw [if_pos h1]; exact Or.inl rfl
    · rw [if_neg h1]
      refine Or.inr ⟨rfl, ?_⟩
      obtain ⟨j, hj, e⟩ := nI_of h0
      refine ⟨j, ?_, e⟩
      rw [e] at h1
      have h2 : ¬ m < j := fun z => h1 ((lt_nI hm hj).mpr z)
      omega
theorem zu_20 (x : Int32) : zu x 20 = 0 ∨ zu x 20 = 1 ∧ ∃ j, j ≤ 20 ∧ x = nI j := zu_cs x 20 (by decide)
theorem zu_3 (x : Int32) : zu x 3 = 0 ∨ zu x 3 = 1 ∧ ∃ j, j ≤ 3 ∧ x = nI j := zu_cs x 3 (by decide)
theorem zu_2 (x : Int32) : zu x 2 = 0 ∨ zu x 2 = 1 ∧ ∃ j, j ≤ 2 ∧ x = nI j := zu_cs x 2 (by decide)
theorem zu_1 (x : Int32) : zu x 1 = 0 ∨ zu x 1 = 1 ∧ ∃ j, j ≤ 1 ∧ x = nI j := zu_cs x 1 (by decide)
theorem zu_n0 {x m : Int32} (h : zu x m = 1) : ¬ zu x m = 0 := fun z => absurd (h.symm.trans z) (by decide)
theorem zu_9 (x : Int32) : zu x 9 = 0 ∨ zu x 9 = 1 ∧ ∃ j, j ≤ 9 ∧ x = nI j := zu_cs x 9 (by decide)
theorem stands_eq {μ : Mem} {w : Nat} {ls : List LT} {wm dm : Int32} (h : IsW μ w ls wm dm) : fX4_stands w μ = some (zo (decide (0 < ls.length)), μ) := by
  have h6 := h.1
  unfold fX4_stands
  rw [h.2.1]
  by_cases h0 : 0 < ls.length
  · rw [if_neg (show ¬ nI ls.length ≤ 0 from fun z => absurd ((le_nI (b := 0) (by omega) (by omega)).mp z) (by omega))]
    simp [zo, h0]
  · rw [if_pos (show nI ls.length ≤ 0 from (le_nI (b := 0) (by omega) (by omega)).mpr (by omega))]
    simp [zo, h0]
theorem zero_iff {n : Nat} (h : n < 2 ^ 31) : nI n = 0 ↔ n = 0 := nI_eq (b := 0) h (by omega)
theorem lay_cs (x : Int32) (n : Nat) (h : n ≤ 6) : (∃ k, k < n ∧ x = nI k) ∨ (∀ k, k < n → x ≠ nI k) := by
  by_cases hx : ∃ k, k < n ∧ x = nI k
  · exact Or.inl hx
  · exact Or.inr (fun k hk e => hx ⟨k, hk, e⟩)
theorem isLayer_yes {μ : Mem} {ls : List LT} {wm dm : Int32} (h : IsM μ ls wm dm) {k : Nat} (hk : k < ls.length) : fX6_isLayer (nI k) μ = some (1, μ) := by
  have h6 := h.1
  unfold fX6_isLayer
  rw [h.2.1, if_neg (show ¬ nI k < 0 from fun z => absurd ((lt_nI (b := 0) (by omega) (by omega)).mp z) (by omega)), if_neg (fun z => absurd ((le_nI (by omega) (by omega)).mp z) (by omega))]
theorem isLayer_no {μ : Mem} {ls : List LT} {wm dm : Int32} (h : IsM μ ls wm dm) {x : Int32} (hk : ∀ k, k < ls.length → x ≠ nI k) : fX6_isLayer x μ = some (0, μ) := by
  have h6 := h.1
  unfold fX6_isLayer
  rcases pk_ix x (n := ls.length) (by omega) with h1 | h1 | ⟨j, hj, h1⟩
  · rw [if_pos h1]
  · by_cases h0 : x < 0
    · rw [if_pos h0]
    · rw [if_neg h0, h.2.1, if_pos h1]
  · exact absurd h1 (hk j hj)
theorem op_trace : St fX5_trace fX6_trace := by
  rintro μ ⟨ls, wm, dm, rs, hR⟩
  refine ⟨μ 0 5, μ, μ, rfl, ?_, ls, wm, dm, rs, hR⟩
  unfold fX6_trace
  rw [hR.2.2.2.1]
theorem op_fault : St fX5_fault fX6_fault := by
  rintro μ ⟨ls, wm, dm, rs, hR⟩
  refine ⟨μ 0 6, μ, μ, rfl, ?_, ls, wm, dm, rs, hR⟩
  unfold fX6_fault
  rw [hR.2.2.2.2]
theorem op_heat (v : Int32) : St (fX5_heat v) (fX6_heat v) := by
  rintro μ ⟨ls, wm, dm, rs, hR⟩
  have hR' := hR
  obtain ⟨⟨hW, hM, hk⟩, -⟩ := hR
  have h6 := hW.1
  rcases zu_20 v with hz | ⟨hz, -⟩
  · refine ⟨-2, μ, μ, ?_, ?_, ls, wm, dm, rs, hR'⟩
    · unfold fX5_heat
      rw [isUpTo_eq, bnd_s, if_pos hz]
    · unfold fX6_heat
      rw [within_eq, bnd_s, if_pos hz]
  · have hz' : ¬ zu v 20 = 0 := fun z => absurd (hz.symm.trans z) (by decide)
    by_cases h0 : 0 < ls.length
    · have n0 : ¬ nI ls.length = 0 := fun z => absurd ((zero_iff (by omega)).mp z) (by omega)
      refine ⟨wm, up2 μ 1 2 v, up2 (up2 μ 1 2 v) 31 6 v, ?_, ?_, ls, v, dm, rs, ?_⟩
      · unfold fX5_heat
        rw [isUpTo_eq, bnd_s, if_neg hz', stands_eq hW, bnd_s]
        simp only [h0, decide_true, zo, if_true]
        rw [if_neg (by decide), lti_e, ltm_e, hW.2.2.1]
      · unfold fX6_heat
        rw [within_eq, bnd_s, if_neg hz', up2_n _ _ _ (by decide), hM.2.1, if_neg n0, lti_e, ltm_e, hM.2.2.1]
      · refine hR'.wall ?_ ?_ hk (fun i hi => ?_) ?_ ?_ ?_
        · obtain ⟨a1, a2, a3, a4, a5⟩ := hW
          refine ⟨a1, ?_, ?_, ?_, fun j hj => ?_⟩
          · rw [up2_n _ _ _ (by decide), up2_kn _ _ (by decide)]; exact a2
          · rw [up2_n _ _ _ (by decide), up2_ks]
          · rw [up2_n _ _ _ (by decide), up2_kn _ _ (by decide)]; exact a4
          · rw [up2_n _ _ _ (by omega), up2_n _ _ _ (by omega)]; exact a5 j hj
        · obtain ⟨a1, a2, a3, a4, a5⟩ := hM
          refine ⟨a1, ?_, ?_, ?_, fun j hj => ?_⟩
          · rw [up2_kn _ _ (by decide), up2_n _ _ _ (by decide)]; exact a2
          · rw [up2_ks]
          · rw [up2_kn _ _ (by decide), up2_n _ _ _ (by decide)]; exact a4
          · rw [up2_n _ _ _ (by decide), up2_n _ _ _ (by decide), up2_n _ _ _ (by decide), up2_n _ _ _ (by decide), up2_n _ _ _ (by decide), up2_n _ _ _ (by decide)]; exact a5 j hj
        · rw [up2_n _ _ _ (by omega), up2_n _ _ _ (by omega)]
        · rw [up2_kn _ _ (by decide), up2_n _ _ _ (by decide)]
        · rw [up2_kn _ _ (by decide), up2_n _ _ _ (by decide)]
        · rw [up2_kn _ _ (by decide), up2_n _ _ _ (by decide)]
    · have n0 : nI ls.length = 0 := (zero_iff (by omega)).mpr (by omega)
      refine ⟨-3, μ, μ, ?_, ?_, ls, wm, dm, rs, hR'⟩
      · unfold fX5_heat
        rw [isUpTo_eq, bnd_s, if_neg hz', stands_eq hW, bnd_s]
        simp only [h0, decide_false, zo]
        rfl
      · unfold fX6_heat
        rw [within_eq, bnd_s, if_neg hz', hM.2.1, if_pos n0]
theorem op_wet (v : Int32) : St (fX5_wet v) (fX6_wet v) := by
  rintro μ ⟨ls, wm, dm, rs, hR⟩
  have hR' := hR
  obtain ⟨⟨hW, hM, hk⟩, -⟩ := hR
  have h6 := hW.1
  rcases zu_9 v with hz | ⟨hz, -⟩
  · refine ⟨-2, μ, μ, ?_, ?_, ls, wm, dm, rs, hR'⟩
    · unfold fX5_wet
      rw [isUpTo_eq, bnd_s, if_pos hz]
    · unfold fX6_wet
      rw [isDigit_eq, bnd_s, if_pos hz]
  · have hz' : ¬ zu v 9 = 0 := fun z => absurd (hz.symm.trans z) (by decide)
    by_cases h0 : 0 < ls.length
    · have n0 : ¬ nI ls.length = 0 := fun z => absurd ((zero_iff (by omega)).mp z) (by omega)
      refine ⟨dm, up2 μ 1 3 v, up2 (up2 μ 1 3 v) 31 7 v, ?_, ?_, ls, wm, v, rs, ?_⟩
      · unfold fX5_wet
        rw [isUpTo_eq, bnd_s, if_neg hz', stands_eq hW, bnd_s]
        simp only [h0, decide_true, zo, if_true]
        rw [if_neg (by decide), lti_e, ltm_e, hW.2.2.2.1]
      · unfold fX6_wet
        rw [isDigit_eq, bnd_s, if_neg hz', up2_n _ _ _ (by decide), hM.2.1, if_neg n0, lti_e, ltm_e, hM.2.2.2.1]
      · refine hR'.wall ?_ ?_ hk (fun i hi => ?_) ?_ ?_ ?_
        · obtain ⟨a1, a2, a3, a4, a5⟩ := hW
          refine ⟨a1, ?_, ?_, ?_, fun j hj => ?_⟩
          · rw [up2_n _ _ _ (by decide), up2_kn _ _ (by decide)]; exact a2
          · rw [up2_n _ _ _ (by decide), up2_kn _ _ (by decide)]; exact a3
          · rw [up2_n _ _ _ (by decide), up2_ks]
          · rw [up2_n _ _ _ (by omega), up2_n _ _ _ (by omega)]; exact a5 j hj
        · obtain ⟨a1, a2, a3, a4, a5⟩ := hM
          refine ⟨a1, ?_, ?_, ?_, fun j hj => ?_⟩
          · rw [up2_kn _ _ (by decide), up2_n _ _ _ (by decide)]; exact a2
          · rw [up2_kn _ _ (by decide), up2_n _ _ _ (by decide)]; exact a3
          · rw [up2_ks]
          · rw [up2_n _ _ _ (by decide), up2_n _ _ _ (by decide), up2_n _ _ _ (by decide), up2_n _ _ _ (by decide), up2_n _ _ _ (by decide), up2_n _ _ _ (by decide)]; exact a5 j hj
        · rw [up2_n _ _ _ (by omega), up2_n _ _ _ (by omega)]
        · rw [up2_kn _ _ (by decide), up2_n _ _ _ (by decide)]
        · rw [up2_kn _ _ (by decide), up2_n _ _ _ (by decide)]
        · rw [up2_kn _ _ (by decide), up2_n _ _ _ (by decide)]
    · have n0 : nI ls.length = 0 := (zero_iff (by omega)).mpr (by omega)
      refine ⟨-3, μ, μ, ?_, ?_, ls, wm, dm, rs, hR'⟩
      · unfold fX5_wet
        rw [isUpTo_eq, bnd_s, if_neg hz', stands_eq hW, bnd_s]
        simp only [h0, decide_false, zo]
        rfl
      · unfold fX6_wet
        rw [isDigit_eq, bnd_s, if_neg hz', hM.2.1, if_pos n0]
theorem okW_set {ls : List LT} (hk : okW ls) {k : Nat} {t : LT} (ht : okL t) : okW (ls.set k t) := by
  intro x hx
  rcases List.mem_or_eq_of_mem_set hx with h | h
  · exact hk x h
  · rw [h]; exact ht
theorem IsM.set3 {μ : Mem} {ls : List LT} {wm dm : Int32} (h : IsM μ ls wm dm) {k : Nat} (hk : k < ls.length) {f : Nat} (hf : f < 3) (v : Int32) {t : LT} (ht : t = (if f = 0 then v else (lyr ls k).1, if f = 1 then v else (lyr ls k).2.1, if f = 2 then v else (lyr ls k).2.2)) : IsM (up2 μ (35 + f) k v) (ls.set k t) wm dm := by
  obtain ⟨h6, h1, h2, h3, hj⟩ := h
  refine ⟨by rw [List.length_set]; exact h6, ?_, ?_, ?_, fun j hl => ?_⟩
  · rw [up2_n _ _ _ (by omega), List.length_set]; exact h1
  · rw [up2_n _ _ _ (by omega)]; exact h2
  · rw [up2_n _ _ _ (by omega)]; exact h3
  · rw [List.length_set] at hl
    rw [lyr_set hk]
    have q := hj j hl
    have : f = 0 ∨ f = 1 ∨ f = 2 := by omega
    by_cases hjk : j = k
    · subst hjk
      rw [if_pos rfl, ht, ← q]
      rcases this with rfl | rfl | rfl <;> simp [up2_ap]
    · rw [if_neg hjk, ← q]
      rcases this with rfl | rfl | rfl <;> simp [up2_ap, hjk]
theorem op_paste (x v : Int32) : St (fX5_paste x v) (fX6_paste x v) := by
  rintro μ ⟨ls, wm, dm, rs, hR⟩
  have hR' := hR
  obtain ⟨⟨hW, hM, hk⟩, -⟩ := hR
  have h6 := hW.1
  rcases lay_cs x ls.length h6 with ⟨k, hkl, rfl⟩ | hno
  · rcases zu_9 v with hz | ⟨hz, d, hd, hdv⟩
    · refine ⟨-2, μ, μ, ?_, ?_, ls, wm, dm, rs, hR'⟩
      · unfold fX5_paste
        rw [X4_layerAt hW hkl, bnd_s, oe_s, isUpTo_eq, bnd_s, if_pos hz]
      · unfold fX6_paste
        rw [isLayer_yes hM hkl, bnd_s, if_neg (by decide), isDigit_eq, bnd_s, if_pos hz]
    · have hz' : ¬ zu v 9 = 0 := fun z => absurd (hz.symm.trans z) (by decide)
      have hi : inb (nI k) 6 := inb_nI (by omega) (by omega)
      refine ⟨(lyr ls k).2.1, up2 μ (1 + 1 + 1 + k) 1 v, up2 (up2 μ (1 + 1 + 1 + k) 1 v) 36 k v, ?_, ?_, setH ls k v, wm, dm, rs, ?_⟩
      · unfold fX5_paste
        rw [X4_layerAt hW hkl, bnd_s, oe_s, isUpTo_eq, bnd_s, if_neg hz', lti_e, ltm_e]
        have q : μ (1 + 1 + 1 + k) 1 = (lyr ls k).2.1 := congrArg (fun t => t.2.1) (hW.2.2.2.2 k hkl)
        rw [q]
      · have hM1 : IsM (up2 μ (1 + 1 + 1 + k) 1 v) ls wm dm := hM.fr (by rw [up2_n _ _ _ (by omega)]) (by rw [up2_n _ _ _ (by omega)]) (by rw [up2_n _ _ _ (by omega)]) (up2_n _ _ _ (by omega)) (up2_n _ _ _ (by omega)) (up2_n _ _ _ (by omega))
        unfold fX6_paste
        rw [isLayer_yes hM1 hkl, bnd_s, if_neg (by decide), isDigit_eq, bnd_s, if_neg hz', if_pos hi, lti_e, if_pos hi, ltm_e, cl_nI (by omega)]
        have q : (up2 μ (1 + 1 + 1 + k) 1 v) 36 k = (lyr ls k).2.1 := congrArg (fun t => t.2.1) (hM1.2.2.2.2 k hkl)
        rw [q]
      · have hM1 : IsM (up2 μ (1 + 1 + 1 + k) 1 v) ls wm dm := hM.fr (by rw [up2_n _ _ _ (by omega)]) (by rw [up2_n _ _ _ (by omega)]) (by rw [up2_n _ _ _ (by omega)]) (up2_n _ _ _ (by omega)) (up2_n _ _ _ (by omega)) (up2_n _ _ _ (by omega))
        have o := hk _ (lyr_mem hkl)
        refine hR'.wall ((hW.set3 hkl (f := 1) (by decide) v rfl).1.fr (fun i h1 h2 => up2_n _ _ _ (by omega))) (hM1.set3 hkl (f := 1) (by decide) v rfl) (okW_set hk ⟨o.1, ⟨d, hd, hdv⟩, o.2.2⟩) (fun i hi => ?_) ?_ ?_ ?_
        · rw [up2_n _ _ _ (by omega), up2_n _ _ _ (by omega)]
        · rw [up2_n _ _ _ (by omega), up2_n _ _ _ (by omega)]
        · rw [up2_n _ _ _ (by omega), up2_n _ _ _ (by omega)]
        · rw [up2_n _ _ _ (by omega), up2_n _ _ _ (by omega)]
  · refine ⟨-1, μ, μ, ?_, ?_, ls, wm, dm, rs, hR'⟩
    · unfold fX5_paste
      rw [X4_layerNo hW hno, bnd_s, oe_n]
    · unfold fX6_paste
      rw [isLayer_no hM hno, bnd_s, if_pos rfl]
theorem set_first : ∀ h : Fin 7, ((1 : Int32) <<< (nI h.val &&& 31)) - 1 = nI (2 ^ h.val - 1) := by decide +kernel
theorem op_heard : St fX5_heard fX6_heard := by
  refine St.jk (fun μ ls wm dm rs hR => ?_)
  obtain ⟨⟨hW, hM, hk⟩, -⟩ := hR
  have h6 := hW.1
  by_cases h0 : 0 < ls.length
  · have n0 : ¬ nI ls.length = 0 := fun z => absurd ((zero_iff (by omega)).mp z) (by omega)
    have hl := hrd_len (wm - dm) ls
    obtain ⟨μ', e1, e2⟩ := X6_heardNow hM hk
    refine ⟨nI (2 ^ (hrd (wm - dm) ls).length - 1), μ, μ', ?_, Jk.rf, ?_, Jk.o39 e2⟩
    · unfold fX5_heard
      rw [stands_eq hW, bnd_s]
      simp only [h0, decide_true, zo, if_true]
      rw [if_neg (by decide)]
      show bnd (some (μ 1 2 - μ 1 3, μ)) _ = _
      rw [bnd_s, hW.2.2.1, hW.2.2.2.1, X4_heardBy hW, bnd_s]
      show bnd (some (_, μ)) _ = _
      have := set_first ⟨(hrd (wm - dm) ls).length, by omega⟩
      dsimp only at this
      rw [this]
      rfl
    · unfold fX6_heard
      rw [hM.2.1, if_neg n0, e1, bnd_s]
  · have n0 : nI ls.length = 0 := (zero_iff (by omega)).mpr (by omega)
    refine ⟨-3, μ, μ, ?_, Jk.rf, ?_, Jk.rf⟩
    · unfold fX5_heard
      rw [stands_eq hW, bnd_s]
      simp only [h0, decide_false, zo]
      rfl
    · unfold fX6_heard
      rw [hM.2.1, if_pos n0]
theorem op_counsel (a b : Int32) : St (fX5_counsel a b) (fX6_counsel a b) := by
  refine St.jk (fun μ ls wm dm rs hR => ?_)
  obtain ⟨⟨hW, hM, hk⟩, -⟩ := hR
  have h6 := hW.1
  unfold fX5_counsel fX6_counsel
  simp only [isUpTo_eq, within_eq, isDigit_eq, bnd_s]
  by_cases ha : zu a 20 = 0
  · refine ⟨-2, μ, μ, ?_, Jk.rf, ?_, Jk.rf⟩ <;> rw [if_pos ha]
  · by_cases hb : zu b 9 = 0
    · refine ⟨-2, μ, μ, ?_, Jk.rf, ?_, Jk.rf⟩ <;> rw [if_neg ha, if_pos hb]
    · by_cases h0 : 0 < ls.length
      · have n0 : ¬ nI ls.length = 0 := fun z => absurd ((zero_iff (by omega)).mp z) (by omega)
        obtain ⟨μ', e1, e2, e3⟩ := X6_orderAsIs hM
        refine ⟨cnsl (a - b) ls, μ, μ', ?_, Jk.rf, ?_, Jk.o39 e3⟩
        · rw [if_neg ha, if_neg hb, stands_eq hW, bnd_s]
          simp only [h0, decide_true, zo, if_true]
          rw [if_neg (by decide), X4_counselBy hW hk, bnd_s]
        · rw [if_neg ha, if_neg hb, hM.2.1, if_neg n0, e1, bnd_s, X6_counselIdx (hM.o39 e3) hk e2, bnd_s]
      · have n0 : nI ls.length = 0 := (zero_iff (by omega)).mpr (by omega)
        refine ⟨-3, μ, μ, ?_, Jk.rf, ?_, Jk.rf⟩
        · rw [if_neg ha, if_neg hb, stands_eq hW, bnd_s]
          simp only [h0, decide_false, zo]
          rfl
        · rw [if_neg ha, if_neg hb, hM.2.1, if_pos n0]
