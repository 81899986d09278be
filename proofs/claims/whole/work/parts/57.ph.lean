/-! PURE: telling, putting up, peeling, readings -/
theorem RR.tf {μ μ' : Mem} {ls : List LT} {wm dm : Int32} {rs : List RT} (h : RR μ ls wm dm rs) (hc : ∀ i, i ≠ 0 → i ≠ 31 → μ' i = μ i) (hf : ∀ f, f ≠ 0 → f ≠ 1 → μ' 31 f = μ 31 f) (h5 : μ' 0 5 = μ' 31 1) (h6 : μ' 0 6 = μ' 31 0) : RR μ' ls wm dm rs := by
  obtain ⟨⟨a1, a2, a3⟩, ⟨b1, b2⟩, c, -, -⟩ := h
  refine ⟨⟨a1.fr (fun i h1 h2 => hc i (by omega) (by omega)), a2.fr (hf 5 (by decide) (by decide)) (hf 6 (by decide) (by decide)) (hf 7 (by decide) (by decide)) (hc 35 (by decide) (by decide)) (hc 36 (by decide) (by decide)) (hc 37 (by decide) (by decide)), a3⟩, ⟨b1.fr (hc 17 (by decide) (by decide)) (hc 18 (by decide) (by decide)) (hc 19 (by decide) (by decide)), b2.fr (hf 22 (by decide) (by decide)) (hc 41 (by decide) (by decide)) (hc 42 (by decide) (by decide)) (hc 43 (by decide) (by decide))⟩, c.fr (fun i hi => hc i (by omega) (by omega)), h5, h6⟩
def lvT (t x : Int32) : Int32 := 31 * t + x
theorem leave_eq (x : Int32) (μ : Mem) : fX5_leave x μ = some ((), up2 μ 0 5 (lvT (μ 0 5) x)) := rfl
theorem begins_eq (x : Int32) (μ : Mem) : fX6_begins x μ = some ((), up2 μ 31 1 (lvT (μ 31 1) x)) := rfl
theorem IsM.c0 {μ : Mem} {ls : List LT} {wm dm : Int32} (h : IsM μ ls wm dm) (b : Nat) (v : Int32) : IsM (up2 μ 0 b v) ls wm dm := h.fr (by rw [up2_n _ _ _ (by decide)]) (by rw [up2_n _ _ _ (by decide)]) (by rw [up2_n _ _ _ (by decide)]) (up2_n _ _ _ (by decide)) (up2_n _ _ _ (by decide)) (up2_n _ _ _ (by decide))
theorem upp (μ : Mem) (i k : Nat) (a b : Int32) : up2 (up2 μ i k a) i k b = up2 μ i k b := by
  funext x y
  rw [up2_ap, up2_ap, up2_ap]
  split <;> rfl
/-- both traces become t -/
theorem RR.trace {μ : Mem} {ls : List LT} {wm dm : Int32} {rs : List RT} (h : RR μ ls wm dm rs) (t : Int32) : RR (up2 (up2 μ 0 5 t) 31 1 t) ls wm dm rs := by
  refine h.tf (fun i h1 h2 => ?_) (fun f h1 h2 => ?_) ?_ ?_
  · rw [up2_n _ _ _ h2, up2_n _ _ _ h1]
  · rw [up2_kn _ _ h2, up2_n _ _ _ (by decide)]
  · rw [up2_n _ _ _ (by decide), up2_ks, up2_ks]
  · rw [up2_n _ _ _ (by decide), up2_kn _ _ (by decide), up2_kn _ _ (by decide), up2_n _ _ _ (by decide)]; exact h.2.2.2.2
theorem op_tell (x : Int32) : St (fX5_tell x) (fX6_tell x) := by
  rintro μ ⟨ls, wm, dm, rs, hR⟩
  have hR' := hR
  obtain ⟨⟨hW, hM, hk⟩, -, -, htr, -⟩ := hR
  have h6 := hW.1
  rcases lay_cs x ls.length h6 with ⟨k, hkl, rfl⟩ | hno
  · have hi : inb (nI k) 6 := inb_nI (by omega) (by omega)
    have q := hW.2.2.2.2 k hkl
    have q0 : μ (1 + 1 + 1 + k) 0 = (lyr ls k).1 := congrArg Prod.fst q
    have q1 : μ (1 + 1 + 1 + k) 1 = (lyr ls k).2.1 := congrArg (fun t => t.2.1) q
    obtain ⟨hkd, ⟨h, hh, eh⟩, -⟩ := hk _ (lyr_mem hkl)
    have m := hM.2.2.2.2 k hkl
    have m0 : μ 35 k = (lyr ls k).1 := congrArg Prod.fst m
    have m1 : μ 36 k = (lyr ls k).2.1 := congrArg (fun t => t.2.1) m
    have c1 : ¬ (1 : Int32) = 0 := by decide
    have g : ∀ (t : Int32), up2 μ 0 5 t (1 + 1 + 1 + k) = μ (1 + 1 + 1 + k) := fun t => up2_n _ _ _ (by omega)
    have gm : ∀ (t : Int32), fX6_isLayer (nI k) (up2 μ 0 5 t) = some (1, up2 μ 0 5 t) := fun t => isLayer_yes (hM.c0 5 t) hkl
    have g35 : ∀ (t : Int32), up2 μ 0 5 t 35 = μ 35 := fun t => up2_n _ _ _ (by decide)
    have g36 : ∀ (t : Int32), up2 μ 0 5 t 36 = μ 36 := fun t => up2_n _ _ _ (by decide)
    have g31 : ∀ (t : Int32), up2 μ 0 5 t 31 = μ 31 := fun t => up2_n _ _ _ (by decide)
    rcases hkd with hkd | hkd | hkd
    · refine ⟨(lyr ls k).2.1, up2 μ 0 5 (lvT (μ 0 5) 1), _, ?_, ?_, ls, wm, dm, rs, hR'.trace (lvT (μ 0 5) 1)⟩
      · unfold fX5_tell
        rw [X4_layerAt hW hkl, bnd_s, oe_s, q0, hkd, if_neg (by decide), if_neg (by decide)]
        unfold fX5_tellStripe
        rw [leave_eq, bnd_s, bnd_s, g, q1]
      · unfold fX6_tell
        rw [gm, bnd_s, if_neg c1, if_pos hi, lti_e, if_pos hi, cl_nI (by omega), g35, g36, m0, m1, hkd, if_neg (by decide), if_neg (by decide), begins_eq, bnd_s, g31, ← htr]
    · refine ⟨(lyr ls k).2.1 + 100, up2 μ 0 5 (lvT (lvT (μ 0 5) 2) 1), _, ?_, ?_, ls, wm, dm, rs, hR'.trace (lvT (lvT (μ 0 5) 2) 1)⟩
      · unfold fX5_tell
        rw [X4_layerAt hW hkl, bnd_s, oe_s, q0, hkd, if_pos rfl]
        unfold fX5_tellTrellis fX5_tellStripe
        rw [leave_eq, bnd_s, leave_eq, bnd_s, bnd_s, bnd_s, upp, up2_ks, g, q1]
      · unfold fX6_tell
        rw [gm, bnd_s, if_neg c1, if_pos hi, lti_e, if_pos hi, cl_nI (by omega), g35, g36, m0, m1, hkd, if_pos rfl, begins_eq, bnd_s, begins_eq, bnd_s, upp, up2_ks, g31, ← htr]
    · refine ⟨2 * (lyr ls k).2.1 + 100, up2 μ 0 5 (lvT (lvT (lvT (lvT (μ 0 5) 3) 2) 1) 1), _, ?_, ?_, ls, wm, dm, rs, hR'.trace (lvT (lvT (lvT (lvT (μ 0 5) 3) 2) 1) 1)⟩
      · unfold fX5_tell
        rw [X4_layerAt hW hkl, bnd_s, oe_s, q0, hkd, if_neg (by decide), if_pos rfl]
        unfold fX5_tellRed fX5_tellTrellis fX5_tellStripe
        simp only [leave_eq, bnd_s, upp, up2_ks]
        rw [g, g, q1, eh]
        congr 2
        rw [show (100 : Int32) = nI 100 from rfl, show (2 : Int32) = nI 2 from rfl, nI_add, nI_add, pk_mul, nI_add]
        congr 1
        omega
      · unfold fX6_tell
        rw [gm, bnd_s, if_neg c1, if_pos hi, lti_e, if_pos hi, cl_nI (by omega), g35, g36, m0, m1, hkd, if_neg (by decide), if_pos rfl]
        simp only [begins_eq, bnd_s, upp, up2_ks]
        rw [g31, ← htr]
  · refine ⟨-1, μ, μ, ?_, ?_, ls, wm, dm, rs, hR'⟩
    · unfold fX5_tell
      rw [X4_layerNo hW hno, bnd_s, oe_n]
    · unfold fX6_tell
      rw [isLayer_no hM hno, bnd_s, if_pos rfl]
theorem op_stroke (x : Int32) : St (fX5_stroke x) (fX6_stroke x) := by
  rintro μ ⟨ls, wm, dm, rs, hR⟩
  have hR' := hR
  obtain ⟨⟨hW, hM, hk⟩, -, -, htr, -⟩ := hR
  have h6 := hW.1
  rcases lay_cs x ls.length h6 with ⟨k, hkl, rfl⟩ | hno
  · have hi : inb (nI k) 6 := inb_nI (by omega) (by omega)
    have q := hW.2.2.2.2 k hkl
    have q0 : μ (1 + 1 + 1 + k) 0 = (lyr ls k).1 := congrArg Prod.fst q
    have q2 : μ (1 + 1 + 1 + k) 2 = (lyr ls k).2.2 := congrArg (fun t => t.2.2) q
    have m := hM.2.2.2.2 k hkl
    have m0 : μ 35 k = (lyr ls k).1 := congrArg Prod.fst m
    have m2 : μ 37 k = (lyr ls k).2.2 := congrArg (fun t => t.2.2) m
    have c1 : ¬ (1 : Int32) = 0 := by decide
    have g : ∀ (t : Int32), up2 μ 0 5 t (1 + 1 + 1 + k) = μ (1 + 1 + 1 + k) := fun t => up2_n _ _ _ (by omega)
    have gm : ∀ (t : Int32), fX6_isLayer (nI k) (up2 μ 0 5 t) = some (1, up2 μ 0 5 t) := fun t => isLayer_yes (hM.c0 5 t) hkl
    have g35 : ∀ (t : Int32), up2 μ 0 5 t 35 = μ 35 := fun t => up2_n _ _ _ (by decide)
    have g31 : ∀ (t : Int32), up2 μ 0 5 t 31 = μ 31 := fun t => up2_n _ _ _ (by decide)
    have f35 : ∀ (t u : Int32), up2 (up2 μ 0 5 t) 31 1 u 35 = μ 35 := fun t u => (up2_n _ _ _ (by decide)).trans (up2_n _ _ _ (by decide))
    have f37 : ∀ (t u : Int32), up2 (up2 μ 0 5 t) 31 1 u 37 = μ 37 := fun t u => (up2_n _ _ _ (by decide)).trans (up2_n _ _ _ (by decide))
    by_cases hr : (lyr ls k).1 = 2
    · refine ⟨10, up2 μ 0 5 (lvT (μ 0 5) 5), _, ?_, ?_, ls, wm, dm, rs, hR'.trace (lvT (μ 0 5) 5)⟩
      · unfold fX5_stroke
        rw [X4_layerAt hW hkl, bnd_s, oe_s, q0, if_pos hr]
        unfold fX5_strokeRed
        rw [leave_eq, bnd_s, bnd_s]
      · unfold fX6_stroke
        rw [gm, bnd_s, if_neg c1, if_pos hi, cl_nI (by omega), g35, m0, if_pos hr, begins_eq, bnd_s, if_pos hi, f35, m0, if_pos hr, g31, ← htr]
    · refine ⟨(lyr ls k).2.2, up2 μ 0 5 (lvT (μ 0 5) 4), _, ?_, ?_, ls, wm, dm, rs, hR'.trace (lvT (μ 0 5) 4)⟩
      · unfold fX5_stroke
        rw [X4_layerAt hW hkl, bnd_s, oe_s, q0, if_neg hr]
        unfold fX5_strokeLent
        rw [leave_eq, bnd_s, bnd_s, g, q2]
      · unfold fX6_stroke
        rw [gm, bnd_s, if_neg c1, if_pos hi, cl_nI (by omega), g35, m0, if_neg hr, begins_eq, bnd_s, if_pos hi, f35, m0, if_neg hr, if_pos hi, f37, m2, g31, ← htr]
  · refine ⟨-1, μ, μ, ?_, ?_, ls, wm, dm, rs, hR'⟩
    · unfold fX5_stroke
      rw [X4_layerNo hW hno, bnd_s, oe_n]
    · unfold fX6_stroke
      rw [isLayer_no hM hno, bnd_s, if_pos rfl]
/-- both faults become t -/
theorem RR.flt {μ : Mem} {ls : List LT} {wm dm : Int32} {rs : List RT} (h : RR μ ls wm dm rs) (t : Int32) : RR (up2 (up2 μ 0 6 t) 31 0 t) ls wm dm rs := by
  refine h.tf (fun i h1 h2 => ?_) (fun f h1 h2 => ?_) ?_ ?_
  · rw [up2_n _ _ _ h2, up2_n _ _ _ h1]
  · rw [up2_kn _ _ h1, up2_n _ _ _ (by decide)]
  · rw [up2_n _ _ _ (by decide), up2_kn _ _ (by decide), up2_kn _ _ (by decide), up2_n _ _ _ (by decide)]; exact h.2.2.2.1
  · rw [up2_n _ _ _ (by decide), up2_ks, up2_ks]
theorem failed_eq (x : Int32) (μ : Mem) : fX5_failed x μ = some (-10 - x, up2 μ 0 6 x) := rfl
theorem fails_eq (x : Int32) (μ : Mem) : fX6_fails x μ = some (-10 - x, up2 μ 31 0 x) := rfl
theorem IsW.c0 {μ : Mem} {ls : List LT} {wm dm : Int32} (h : IsW μ 1 ls wm dm) (b : Nat) (v : Int32) : IsW (up2 μ 0 b v) 1 ls wm dm := h.fr (fun i h1 h2 => up2_n _ _ _ (by omega))
theorem IsM.c31 {μ : Mem} {ls : List LT} {wm dm : Int32} (h : IsM μ ls wm dm) {b : Nat} (hb : b ≠ 5 ∧ b ≠ 6 ∧ b ≠ 7) (v : Int32) : IsM (up2 μ 31 b v) ls wm dm := h.fr (up2_kn _ _ (Ne.symm hb.1)) (up2_kn _ _ (Ne.symm hb.2.1)) (up2_kn _ _ (Ne.symm hb.2.2)) (up2_n _ _ _ (by decide)) (up2_n _ _ _ (by decide)) (up2_n _ _ _ (by decide))
theorem op_as (x y : Int32) : St (fX5_as x y) (fX6_as x y) := by
  rintro μ ⟨ls, wm, dm, rs, hR⟩
  have hR' := hR
  obtain ⟨⟨hW, hM, hk⟩, -⟩ := hR
  have h6 := hW.1
  have hW0 := hW.c0 6 0
  rcases lay_cs x ls.length h6 with ⟨k, hkl, rfl⟩ | hno
  · have hi : inb (nI k) 6 := inb_nI (by omega) (by omega)
    have q := hW0.2.2.2.2 k hkl
    have q0 : up2 μ 0 6 0 (1 + 1 + 1 + k) 0 = (lyr ls k).1 := congrArg Prod.fst q
    have c1 : ¬ (1 : Int32) = 0 := by decide
    by_cases hz : zu y 2 = 0
    · refine ⟨-2, up2 μ 0 6 0, up2 (up2 μ 0 6 0) 31 0 0, ?_, ?_, ls, wm, dm, rs, hR'.flt 0⟩
      · unfold fX5_as
        rw [ltm_e, X4_layerAt hW0 hkl, bnd_s, oe_s, isUpTo_eq, bnd_s, if_pos hz]
      · have hM1 := (hM.c0 6 0).c31 (b := 0) (by decide) 0
        unfold fX6_as
        rw [ltm_e, isLayer_yes hM1 hkl, bnd_s, if_neg c1, within_eq, bnd_s, if_pos hz]
    · by_cases hlt : (lyr ls k).1 < y
      · refine ⟨-10 - 2, up2 μ 0 6 2, up2 (up2 μ 0 6 2) 31 0 2, ?_, ?_, ls, wm, dm, rs, hR'.flt 2⟩
        · unfold fX5_as fX0_isA
          rw [ltm_e, X4_layerAt hW0 hkl, bnd_s, oe_s, isUpTo_eq, bnd_s, if_neg hz, q0, if_pos hlt, bnd_s, if_pos rfl, failed_eq, bnd_s, upp]
        · have hM1 := (hM.c0 6 2).c31 (b := 0) (by decide) 0
          have m0 : up2 (up2 μ 0 6 2) 31 0 0 35 k = (lyr ls k).1 := congrArg Prod.fst (hM1.2.2.2.2 k hkl)
          unfold fX6_as
          rw [ltm_e, isLayer_yes hM1 hkl, bnd_s, if_neg c1, within_eq, bnd_s, if_neg hz, if_pos hi, cl_nI (by omega), m0, if_pos hlt, fails_eq, bnd_s, upp]
      · refine ⟨1, up2 μ 0 6 0, up2 (up2 μ 0 6 0) 31 0 0, ?_, ?_, ls, wm, dm, rs, hR'.flt 0⟩
        · unfold fX5_as fX0_isA
          rw [ltm_e, X4_layerAt hW0 hkl, bnd_s, oe_s, isUpTo_eq, bnd_s, if_neg hz, q0, if_neg hlt, bnd_s, if_neg c1]
        · have hM1 := (hM.c0 6 0).c31 (b := 0) (by decide) 0
          have m0 : up2 (up2 μ 0 6 0) 31 0 0 35 k = (lyr ls k).1 := congrArg Prod.fst (hM1.2.2.2.2 k hkl)
          unfold fX6_as
          rw [ltm_e, isLayer_yes hM1 hkl, bnd_s, if_neg c1, within_eq, bnd_s, if_neg hz, if_pos hi, cl_nI (by omega), m0, if_neg hlt]
  · refine ⟨-1, up2 μ 0 6 0, up2 (up2 μ 0 6 0) 31 0 0, ?_, ?_, ls, wm, dm, rs, hR'.flt 0⟩
    · unfold fX5_as
      rw [ltm_e, X4_layerNo hW0 hno, bnd_s, oe_n]
    · have hM1 := (hM.c0 6 0).c31 (b := 0) (by decide) 0
      unfold fX6_as
      rw [ltm_e, isLayer_no hM1 hno, bnd_s, if_pos rfl]
theorem okW_cons {ls : List LT} (hk : okW ls) {t : LT} (ht : okL t) : okW (t :: ls) := by
  intro x hx
  rcases List.mem_cons.mp hx with h | h
  · rw [h]; exact ht
  · exact hk x h
theorem okW_tail {ls : List LT} (hk : okW ls) : okW ls.tail := fun x hx => hk x (List.mem_of_mem_tail hx)
theorem kd_ok {j : Nat} (h : j ≤ 2) : nI j = 0 ∨ nI j = 1 ∨ nI j = 2 := by
  have : j = 0 ∨ j = 1 ∨ j = 2 := by omega
  rcases this with rfl | rfl | rfl
  · exact Or.inl rfl
  · exact Or.inr (Or.inl rfl)
  · exact Or.inr (Or.inr rfl)
theorem op_putUp (a b c : Int32) : St (fX5_putUp a b c) (fX6_putUp a b c) := by
  rintro μ ⟨ls, wm, dm, rs, hR⟩
  have hR' := hR
  obtain ⟨⟨hW, hM, hk⟩, -⟩ := hR
  have h6 := hW.1
  rcases zu_2 a with ha | ⟨ha, ja, hja, rfl⟩
  · refine ⟨-2, μ, μ, ?_, ?_, ls, wm, dm, rs, hR'⟩
    · unfold fX5_putUp
      rw [isUpTo_eq, bnd_s, if_pos ha]
    · unfold fX6_putUp
      rw [within_eq, bnd_s, if_pos ha]
  · rcases zu_9 b with hb | ⟨hb, jb, hjb, rfl⟩
    · refine ⟨-2, μ, μ, ?_, ?_, ls, wm, dm, rs, hR'⟩
      · unfold fX5_putUp
        rw [isUpTo_eq, bnd_s, if_neg (zu_n0 ha), isUpTo_eq, bnd_s, if_pos hb]
      · unfold fX6_putUp
        rw [within_eq, bnd_s, if_neg (zu_n0 ha), isDigit_eq, bnd_s, if_pos hb]
    · rcases zu_9 c with hc | ⟨hc, jc, hjc, rfl⟩
      · refine ⟨-2, μ, μ, ?_, ?_, ls, wm, dm, rs, hR'⟩
        · unfold fX5_putUp
          rw [isUpTo_eq, bnd_s, if_neg (zu_n0 ha), isUpTo_eq, bnd_s, if_neg (zu_n0 hb), isUpTo_eq, bnd_s, if_pos hc]
        · unfold fX6_putUp
          rw [within_eq, bnd_s, if_neg (zu_n0 ha), isDigit_eq, bnd_s, if_neg (zu_n0 hb), isDigit_eq, bnd_s, if_pos hc]
      · have pre5 : ∀ z, (fX4_stands 1 μ = some (z, μ)) → fX5_putUp (nI ja) (nI jb) (nI jc) μ = (if z = 0 then some (-3, μ) else bnd (fX4_layOnTop 1 (nI ja) (nI jb) (nI jc) μ) (fun r_15 μ_13 => (if r_15 = 0 then some ((-4 : Int32), μ_13) else some ((μ_13 1 1), μ_13)))) := by
          intro z hz
          unfold fX5_putUp
          rw [isUpTo_eq, bnd_s, if_neg (zu_n0 ha), isUpTo_eq, bnd_s, if_neg (zu_n0 hb), isUpTo_eq, bnd_s, if_neg (zu_n0 hc), hz, bnd_s]
        have pre6 : ∀ ν : Mem, fX6_putUp (nI ja) (nI jb) (nI jc) ν = (if (ν 31 5) = 0 then some (-3, ν) else (if (ν 31 5) = (6 : Int32) then some ((-4 : Int32), ν) else bnd (fX6_putOn (nI ja) (nI jb) (nI jc) ν) (fun _ μ_10 => some ((μ_10 31 5), μ_10)))) := by
          intro ν
          unfold fX6_putUp
          rw [within_eq, bnd_s, if_neg (zu_n0 ha), isDigit_eq, bnd_s, if_neg (zu_n0 hb), isDigit_eq, bnd_s, if_neg (zu_n0 hc)]
        by_cases h0 : ls.length = 0
        · refine ⟨-3, μ, μ, ?_, ?_, ls, wm, dm, rs, hR'⟩
          · rw [pre5 _ (stands_eq hW), if_pos (by simp [h0, zo])]
          · rw [pre6, hM.2.1, if_pos ((zero_iff (by omega)).mpr h0)]
        · have n0 : ¬ nI ls.length = 0 := fun z => h0 ((zero_iff (by omega)).mp z)
          have hs : ¬ zo (decide (0 < ls.length)) = 0 := by
            have : 0 < ls.length := by omega
            simp [this, zo]
          by_cases hf : ls.length = 6
          · refine ⟨-4, μ, μ, ?_, ?_, ls, wm, dm, rs, hR'⟩
            · rw [pre5 _ (stands_eq hW), if_neg hs, X4_layFull hW _ _ _ hf, bnd_s, if_pos rfl]
            · rw [pre6, hM.2.1, if_neg n0, hf, if_pos (show nI 6 = 6 from rfl)]
          · obtain ⟨μ1, e1, e2, e3⟩ := X4_layOnTop hW (nI ja, nI jb, nI jc) (by omega)
            have hM1 : IsM μ1 ls wm dm := hM.fr (by rw [e3 31 (by omega)]) (by rw [e3 31 (by omega)]) (by rw [e3 31 (by omega)]) (e3 35 (by omega)) (e3 36 (by omega)) (e3 37 (by omega))
            obtain ⟨μ2, f1, f2, f3⟩ := X6_putOn hM1 (nI ja, nI jb, nI jc) (by omega)
            refine ⟨nI (ls.length + 1), μ1, μ2, ?_, ?_, (nI ja, nI jb, nI jc) :: ls, wm, dm, rs, ?_⟩
            · rw [pre5 _ (stands_eq hW), if_neg hs]
              dsimp only at e1
              rw [e1, bnd_s, if_neg (by decide), e2.2.1]
              rfl
            · rw [pre6, hM1.2.1, if_neg n0, if_neg (show ¬ nI ls.length = 6 from fun z => hf ((nI_eq (b := 6) (by omega) (by omega)).mp z))]
              dsimp only at f1
              rw [f1, bnd_s, f2.2.1]
              rfl
            · refine hR'.wall (e2.fr (fun i h1 h2 => f3.1 i (by omega) (by simp; omega))) f2 (okW_cons hk ⟨kd_ok hja, ⟨jb, hjb, rfl⟩, ⟨jc, hjc, rfl⟩⟩) (fun i hi => ?_) ?_ ?_ ?_
              · rw [f3.1 i (by omega) (by simp; omega), e3 i (by omega)]
              · rw [f3.2 0 (by decide), e3 31 (by omega)]
              · rw [f3.2 1 (by decide), e3 31 (by omega)]
              · rw [f3.2 22 (by decide), e3 31 (by omega)]
theorem op_peel : St fX5_peel fX6_peel := by
  rintro μ ⟨ls, wm, dm, rs, hR⟩
  have hR' := hR
  obtain ⟨⟨hW, hM, hk⟩, -⟩ := hR
  have h6 := hW.1
  by_cases h0 : ls.length = 0
  · refine ⟨-3, μ, μ, ?_, ?_, ls, wm, dm, rs, hR'⟩
    · unfold fX5_peel
      rw [X4_layerNo hW (fun k hk => by omega), bnd_s, oe_n]
    · unfold fX6_peel
      rw [hM.2.1, if_pos (show nI ls.length ≤ 0 from (le_nI (b := 0) (by omega) (by omega)).mpr (by omega))]
  · have n0 : ¬ nI ls.length ≤ 0 := fun z => absurd ((le_nI (b := 0) (by omega) (by omega)).mp z) (by omega)
    have q2 : μ (1 + 1 + 1 + 0) 2 = adv (lyr ls 0) := congrArg (fun t => t.2.2) (hW.2.2.2.2 0 (by omega))
    have ha := X4_layerAt hW (k := 0) (by omega)
    obtain ⟨μm, m1, m2⟩ := X6_mayPeel hM hk
    by_cases hy : 2 ≤ ls.length ∧ (lft (wm - dm) ls).length ≠ 0
    · obtain ⟨μ1, e1, e2, e3⟩ := X4_peelYes hW hy.1 hy.2
      have hM1 : IsM μ1 ls wm dm := hM.fr (by rw [e3 31 (by omega)]) (by rw [e3 31 (by omega)]) (by rw [e3 31 (by omega)]) (e3 35 (by omega)) (e3 36 (by omega)) (e3 37 (by omega))
      obtain ⟨μm, m1, m2⟩ := X6_mayPeel hM1 hk
      obtain ⟨μ2, f1, f2, f3⟩ := X6_takeOff (hM1.o39 m2) (by omega)
      refine ⟨adv (lyr ls 0), μ1, μ2, ?_, ?_, ls.tail, wm, dm, rs, ?_⟩
      · unfold fX5_peel
        rw [show (0 : Int32) = nI 0 from rfl, ha, bnd_s, oe_s, lti_e, e1, bnd_s, if_neg (by decide), q2]
      · unfold fX6_peel
        rw [hM1.2.1, if_neg n0, m1, bnd_s, if_neg (by simp [hy, zo]), f1, bnd_s]
      · refine hR'.wall (e2.fr (fun i h1 h2 => by rw [f3.1 i (by omega) (by simp; omega), m2 i (by omega)])) f2 (okW_tail hk) (fun i hi => ?_) ?_ ?_ ?_
        · rw [f3.1 i (by omega) (by simp; omega), m2 i (by omega), e3 i (by omega)]
        · rw [f3.2 0 (by decide), m2 31 (by decide), e3 31 (by omega)]
        · rw [f3.2 1 (by decide), m2 31 (by decide), e3 31 (by omega)]
        · rw [f3.2 22 (by decide), m2 31 (by decide), e3 31 (by omega)]
    · have hn : ls.length < 2 ∨ (lft (wm - dm) ls).length = 0 := by omega
      refine ⟨-3, μ, μm, ?_, ?_, ls, wm, dm, rs, hR'.jk (Jk.o39 m2)⟩
      · unfold fX5_peel
        rw [show (0 : Int32) = nI 0 from rfl, ha, bnd_s, oe_s, lti_e, X4_peelNo hW hn, bnd_s, if_pos (by decide)]
      · unfold fX6_peel
        rw [decide_eq_false hy] at m1
        rw [hM.2.1, if_neg n0, m1, bnd_s, if_pos (show zo false = 0 from rfl)]
