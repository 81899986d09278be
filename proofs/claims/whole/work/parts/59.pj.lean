/-! PURE: how firmly one holds, what it advises, of which kind it is -/
theorem set_self {ls : List LT} {k : Nat} (hk : k < ls.length) : ls.set k (lyr ls k) = ls := by
  apply List.ext_getElem?
  intro j
  by_cases h : j = k
  · subst h
    rw [List.getElem?_set_self hk]
    unfold lyr
    rw [List.getD_eq_getElem?_getD, List.getElem?_eq_getElem hk]
    rfl
  · rw [List.getElem?_set_ne (Ne.symm h)]
theorem setP_re {μ : Mem} {ls : List LT} {wm dm : Int32} {k p : Nat} {y : Int32} (h : IsM μ (setP p ls k y) wm dm) (hk : k < ls.length) (hp : p < 3) (v : Int32) : True ∧ IsM (up2 μ (35 + p) k v) (setP p ls k v) wm dm := by
  refine ⟨trivial, ?_⟩
  have hk' : k < (setP p ls k y).length := by rw [setP_len]; exact hk
  have := h.set3 hk' hp v rfl
  have hc : p = 0 ∨ p = 1 ∨ p = 2 := by omega
  have e : (setP p ls k y).set k (if p = 0 then v else (lyr (setP p ls k y) k).1, if p = 1 then v else (lyr (setP p ls k y) k).2.1, if p = 2 then v else (lyr (setP p ls k y) k).2.2) = setP p ls k v := by
    rcases hc with rfl | rfl | rfl <;> simp [setP, setK, setH, setA, lyr_set hk]
  rw [e] at this
  exact this
theorem X6_holds_L {ls : List LT} {wm dm : Int32} {rs : List RT} (hk : okW ls) {k : Nat} (hkl : k < ls.length) : ∀ (m fuel v S : Nat) (μ : Mem) (y : Int32), v + m = 10 → m < fuel → IsM μ (setP 1 ls k y) wm dm → IsO μ (List.range ls.length) → IsRm μ rs →
    ∃ μ', fX6_holds_L26 (nI k) (lyr ls k).2.1 fuel (nI S) (nI v) μ = some (nI (fitS (fun v => agr rs (setP 1 ls k (nI v))) v m S), μ') ∧ IsM μ' ls wm dm ∧ ∀ i, i ≠ 36 → μ' i = μ i := by
  have h6k : ls.length ≤ 6 ∨ 6 < ls.length := by omega
  intro m
  induction m with
  | zero =>
    intro fuel v S μ y hv hf hM ho hm
    have h6 := hM.1
    rw [setP_len] at h6
    have hi : inb (nI k) 6 := inb_nI (by omega) (by omega)
    obtain ⟨fuel, rfl⟩ : ∃ f, fuel = f + 1 := ⟨fuel - 1, by omega⟩
    refine ⟨up2 μ 36 k (lyr ls k).2.1, ?_, ?_, fun i hi => up2_n _ _ _ hi⟩
    · show sX6_holds_L26 (fX6_holds_L26 (nI k) (lyr ls k).2.1 fuel) (nI k) (lyr ls k).2.1 (nI S) (nI v) μ = _
      unfold sX6_holds_L26
      rw [if_pos (show 9 < nI v from (lt_nI (a := 9) (by omega) (by omega)).mpr (by omega)), if_pos hi, ltm_e, cl_nI (by omega)]
      rfl
    · have := (setP_re hM hkl (p := 1) (by decide) (lyr ls k).2.1).2
      have e : setP 1 ls k (lyr ls k).2.1 = ls := set_self hkl
      rw [e] at this
      exact this
  | succ m ih =>
    intro fuel v S μ y hv hf hM ho hm
    have h6 := hM.1
    rw [setP_len] at h6
    have hi : inb (nI k) 6 := inb_nI (by omega) (by omega)
    obtain ⟨fuel, rfl⟩ : ∃ f, fuel = f + 1 := ⟨fuel - 1, by omega⟩
    show ∃ μ', sX6_holds_L26 (fX6_holds_L26 (nI k) (lyr ls k).2.1 fuel) (nI k) (lyr ls k).2.1 (nI S) (nI v) μ = _ ∧ _
    unfold sX6_holds_L26
    rw [if_neg (show ¬ 9 < nI v from fun z => absurd ((lt_nI (a := 9) (by omega) (by omega)).mp z) (by omega)), if_pos hi, ltm_e, cl_nI (by omega)]
    have hM1 : IsM (up2 μ 36 k (nI v)) (setP 1 ls k (nI v)) wm dm := (setP_re hM hkl (p := 1) (by decide) (nI v)).2
    have hok : okW (setP 1 ls k (nI v)) := setP_ok hk hkl (by simp; omega)
    have hm1 : IsRm (up2 μ 36 k (nI v)) rs := hm.fr (by rw [up2_n _ _ _ (by decide)]) (up2_n _ _ _ (by decide)) (up2_n _ _ _ (by decide)) (up2_n _ _ _ (by decide))
    have ho1 : IsO (up2 μ 36 k (nI v)) (List.range ls.length) := fun q hq => by rw [up2_n _ _ _ (by decide)]; exact ho q hq
    have ha := X6_areSo hM1 hok ho1 (by rw [List.length_range, setP_len]) (fun k hk => by rw [setP_len]; exact List.mem_range.mp hk) (range_nd _) hm1
    have er : (List.range ls.length).map (lyr (setP 1 ls k (nI v))) = setP 1 ls k (nI v) := by
      have := range_lyr (setP 1 ls k (nI v))
      rw [setP_len] at this
      exact this
    rw [er] at ha
    rw [ha, bnd_s]
    unfold fitS
    by_cases hb : agr rs (setP 1 ls k (nI v)) = true
    · rw [if_neg (by simp [hb, zo]), lti_e, lti_e, or_bit ⟨v, by omega⟩ S, nI_1]
      obtain ⟨μ', g1, g2, g3⟩ := ih fuel (v + 1) (S ||| 2 ^ v) _ (nI v) (by omega) (by omega) hM1 ho1 hm1
      refine ⟨μ', ?_, g2, fun i hi => by rw [g3 i hi, up2_n _ _ _ hi]⟩
      rw [g1]
      simp [hb]
    · rw [if_pos (by simp [hb, zo]), or_0, lti_e, lti_e, nI_1]
      obtain ⟨μ', g1, g2, g3⟩ := ih fuel (v + 1) S _ (nI v) (by omega) (by omega) hM1 ho1 hm1
      refine ⟨μ', ?_, g2, fun i hi => by rw [g3 i hi, up2_n _ _ _ hi]⟩
      rw [g1]
      simp [hb]
theorem op_holds (x : Int32) : St (fX5_holds x) (fX6_holds x) := by
  rintro μ ⟨ls, wm, dm, rs, hR⟩
  have hR' := hR
  obtain ⟨⟨hW, hM, hk⟩, ⟨hd, hm⟩, -⟩ := hR
  have h6 := hW.1
  rcases lay_cs x ls.length h6 with ⟨k, hkl, rfl⟩ | hno
  · have hi : inb (nI k) 6 := inb_nI (by omega) (by omega)
    obtain ⟨μ1, e1, e2⟩ := X5_fit_L (p := 1) (most := 9) hk hkl (by decide) rfl 10 FU 0 0 μ rfl (by decide) hW hd
    have j1 := Jk.w9 e2
    have hM1 := hM.jk j1
    obtain ⟨μ2, o1, o2, o3⟩ := X6_orderAsIs hM1
    have hM2 := hM1.o39 o3
    have hm2 := (hm.jk j1).jk (Jk.o39 o3)
    have mc : μ2 36 k = (lyr ls k).2.1 := congrArg (fun t => t.2.1) (hM2.2.2.2.2 k hkl)
    have hM2' : IsM μ2 (setP 1 ls k (lyr ls k).2.1) wm dm := by
      have e : setP 1 ls k (lyr ls k).2.1 = ls := set_self hkl
      rw [e]; exact hM2
    obtain ⟨μ3, g1, g2, g3⟩ := X6_holds_L (rs := rs) hk hkl 10 FU 0 0 μ2 _ rfl (by decide) hM2' o2 hm2
    refine ⟨nI (fitS (fun v => agr rs (setP 1 ls k (nI v))) 0 10 0), μ1, μ3, ?_, ?_, ls, wm, dm, rs, ((hR'.jk j1).jk (Jk.o39 o3)).wall (((hW.jk j1).jk (Jk.o39 o3)).fr (fun i h1 h2 => g3 i (by omega))) g2 hk (fun i hi => g3 i (by omega)) (by rw [g3 31 (by decide)]) (by rw [g3 31 (by decide)]) (by rw [g3 31 (by decide)])⟩
    · unfold fX5_holds fX5_fitting
      rw [X4_layerAt hW hkl, bnd_s, oe_s]
      show bnd (fX5_fitting_L6 (nI k) (nI 1) (nI 9) FU (nI 0) (nI 0) μ) _ = _
      rw [e1, bnd_s]
    · unfold fX6_holds
      rw [isLayer_yes hM1 hkl, bnd_s, if_neg (by decide), o1, bnd_s, if_pos hi, lti_e, cl_nI (by omega), mc]
      exact g1
  · refine ⟨-1, μ, μ, ?_, ?_, ls, wm, dm, rs, hR'⟩
    · unfold fX5_holds
      rw [X4_layerNo hW hno, bnd_s, oe_n]
    · unfold fX6_holds
      rw [isLayer_no hM hno, bnd_s, if_pos rfl]
theorem X6_advices_L {ls : List LT} {wm dm : Int32} {rs : List RT} (hk : okW ls) {k : Nat} (hkl : k < ls.length) : ∀ (m fuel v S : Nat) (μ : Mem) (y : Int32), v + m = 10 → m < fuel → IsM μ (setP 2 ls k y) wm dm → IsO μ (List.range ls.length) → IsRm μ rs →
    ∃ μ', fX6_advices_L26 (nI k) (lyr ls k).2.2 fuel (nI S) (nI v) μ = some (nI (fitS (fun v => agr rs (setP 2 ls k (nI v))) v m S), μ') ∧ IsM μ' ls wm dm ∧ ∀ i, i ≠ 37 → μ' i = μ i := by
  have h6k : ls.length ≤ 6 ∨ 6 < ls.length := by omega
  intro m
  induction m with
  | zero =>
    intro fuel v S μ y hv hf hM ho hm
    have h6 := hM.1
    rw [setP_len] at h6
    have hi : inb (nI k) 6 := inb_nI (by omega) (by omega)
    obtain ⟨fuel, rfl⟩ : ∃ f, fuel = f + 1 := ⟨fuel - 1, by omega⟩
    refine ⟨up2 μ 37 k (lyr ls k).2.2, ?_, ?_, fun i hi => up2_n _ _ _ hi⟩
    · show sX6_advices_L26 (fX6_advices_L26 (nI k) (lyr ls k).2.2 fuel) (nI k) (lyr ls k).2.2 (nI S) (nI v) μ = _
      unfold sX6_advices_L26
      rw [if_pos (show 9 < nI v from (lt_nI (a := 9) (by omega) (by omega)).mpr (by omega)), if_pos hi, ltm_e, cl_nI (by omega)]
      rfl
    · have := (setP_re hM hkl (p := 2) (by decide) (lyr ls k).2.2).2
      have e : setP 2 ls k (lyr ls k).2.2 = ls := set_self hkl
      rw [e] at this
      exact this
  | succ m ih =>
    intro fuel v S μ y hv hf hM ho hm
    have h6 := hM.1
    rw [setP_len] at h6
    have hi : inb (nI k) 6 := inb_nI (by omega) (by omega)
    obtain ⟨fuel, rfl⟩ : ∃ f, fuel = f + 1 := ⟨fuel - 1, by omega⟩
    show ∃ μ', sX6_advices_L26 (fX6_advices_L26 (nI k) (lyr ls k).2.2 fuel) (nI k) (lyr ls k).2.2 (nI S) (nI v) μ = _ ∧ _
    unfold sX6_advices_L26
    rw [if_neg (show ¬ 9 < nI v from fun z => absurd ((lt_nI (a := 9) (by omega) (by omega)).mp z) (by omega)), if_pos hi, ltm_e, cl_nI (by omega)]
    have hM1 : IsM (up2 μ 37 k (nI v)) (setP 2 ls k (nI v)) wm dm := (setP_re hM hkl (p := 2) (by decide) (nI v)).2
    have hok : okW (setP 2 ls k (nI v)) := setP_ok hk hkl (by simp; omega)
    have hm1 : IsRm (up2 μ 37 k (nI v)) rs := hm.fr (by rw [up2_n _ _ _ (by decide)]) (up2_n _ _ _ (by decide)) (up2_n _ _ _ (by decide)) (up2_n _ _ _ (by decide))
    have ho1 : IsO (up2 μ 37 k (nI v)) (List.range ls.length) := fun q hq => by rw [up2_n _ _ _ (by decide)]; exact ho q hq
    have ha := X6_areSo hM1 hok ho1 (by rw [List.length_range, setP_len]) (fun k hk => by rw [setP_len]; exact List.mem_range.mp hk) (range_nd _) hm1
    have er : (List.range ls.length).map (lyr (setP 2 ls k (nI v))) = setP 2 ls k (nI v) := by
      have := range_lyr (setP 2 ls k (nI v))
      rw [setP_len] at this
      exact this
    rw [er] at ha
    rw [ha, bnd_s]
    unfold fitS
    by_cases hb : agr rs (setP 2 ls k (nI v)) = true
    · rw [if_neg (by simp [hb, zo]), lti_e, lti_e, or_bit ⟨v, by omega⟩ S, nI_1]
      obtain ⟨μ', g1, g2, g3⟩ := ih fuel (v + 1) (S ||| 2 ^ v) _ (nI v) (by omega) (by omega) hM1 ho1 hm1
      refine ⟨μ', ?_, g2, fun i hi => by rw [g3 i hi, up2_n _ _ _ hi]⟩
      rw [g1]
      simp [hb]
    · rw [if_pos (by simp [hb, zo]), or_0, lti_e, lti_e, nI_1]
      obtain ⟨μ', g1, g2, g3⟩ := ih fuel (v + 1) S _ (nI v) (by omega) (by omega) hM1 ho1 hm1
      refine ⟨μ', ?_, g2, fun i hi => by rw [g3 i hi, up2_n _ _ _ hi]⟩
      rw [g1]
      simp [hb]
theorem op_advices (x : Int32) : St (fX5_advices x) (fX6_advices x) := by
  rintro μ ⟨ls, wm, dm, rs, hR⟩
  have hR' := hR
  obtain ⟨⟨hW, hM, hk⟩, ⟨hd, hm⟩, -⟩ := hR
  have h6 := hW.1
  rcases lay_cs x ls.length h6 with ⟨k, hkl, rfl⟩ | hno
  · have hi : inb (nI k) 6 := inb_nI (by omega) (by omega)
    obtain ⟨μ1, e1, e2⟩ := X5_fit_L (p := 2) (most := 9) hk hkl (by decide) rfl 10 FU 0 0 μ rfl (by decide) hW hd
    have j1 := Jk.w9 e2
    have hM1 := hM.jk j1
    obtain ⟨μ2, o1, o2, o3⟩ := X6_orderAsIs hM1
    have hM2 := hM1.o39 o3
    have hm2 := (hm.jk j1).jk (Jk.o39 o3)
    have mc : μ2 37 k = (lyr ls k).2.2 := congrArg (fun t => t.2.2) (hM2.2.2.2.2 k hkl)
    have hM2' : IsM μ2 (setP 2 ls k (lyr ls k).2.2) wm dm := by
      have e : setP 2 ls k (lyr ls k).2.2 = ls := set_self hkl
      rw [e]; exact hM2
    obtain ⟨μ3, g1, g2, g3⟩ := X6_advices_L (rs := rs) hk hkl 10 FU 0 0 μ2 _ rfl (by decide) hM2' o2 hm2
    refine ⟨nI (fitS (fun v => agr rs (setP 2 ls k (nI v))) 0 10 0), μ1, μ3, ?_, ?_, ls, wm, dm, rs, ((hR'.jk j1).jk (Jk.o39 o3)).wall (((hW.jk j1).jk (Jk.o39 o3)).fr (fun i h1 h2 => g3 i (by omega))) g2 hk (fun i hi => g3 i (by omega)) (by rw [g3 31 (by decide)]) (by rw [g3 31 (by decide)]) (by rw [g3 31 (by decide)])⟩
    · unfold fX5_advices fX5_fitting
      rw [X4_layerAt hW hkl, bnd_s, oe_s]
      show bnd (fX5_fitting_L6 (nI k) (nI 2) (nI 9) FU (nI 0) (nI 0) μ) _ = _
      rw [e1, bnd_s]
    · unfold fX6_advices
      rw [isLayer_yes hM1 hkl, bnd_s, if_neg (by decide), o1, bnd_s, if_pos hi, lti_e, cl_nI (by omega), mc]
      exact g1
  · refine ⟨-1, μ, μ, ?_, ?_, ls, wm, dm, rs, hR'⟩
    · unfold fX5_advices
      rw [X4_layerNo hW hno, bnd_s, oe_n]
    · unfold fX6_advices
      rw [isLayer_no hM hno, bnd_s, if_pos rfl]
theorem X6_kinds_L {ls : List LT} {wm dm : Int32} {rs : List RT} (hk : okW ls) {k : Nat} (hkl : k < ls.length) : ∀ (m fuel v S : Nat) (μ : Mem) (y : Int32), v + m = 3 → m < fuel → IsM μ (setP 0 ls k y) wm dm → IsO μ (List.range ls.length) → IsRm μ rs →
    ∃ μ', fX6_kinds_L26 (nI k) (lyr ls k).1 fuel (nI S) (nI v) μ = some (nI (fitS (fun v => agr rs (setP 0 ls k (nI v))) v m S), μ') ∧ IsM μ' ls wm dm ∧ ∀ i, i ≠ 35 → μ' i = μ i := by
  have h6k : ls.length ≤ 6 ∨ 6 < ls.length := by omega
  intro m
  induction m with
  | zero =>
    intro fuel v S μ y hv hf hM ho hm
    have h6 := hM.1
    rw [setP_len] at h6
    have hi : inb (nI k) 6 := inb_nI (by omega) (by omega)
    obtain ⟨fuel, rfl⟩ : ∃ f, fuel = f + 1 := ⟨fuel - 1, by omega⟩
    refine ⟨up2 μ 35 k (lyr ls k).1, ?_, ?_, fun i hi => up2_n _ _ _ hi⟩
    · show sX6_kinds_L26 (fX6_kinds_L26 (nI k) (lyr ls k).1 fuel) (nI k) (lyr ls k).1 (nI S) (nI v) μ = _
      unfold sX6_kinds_L26
      rw [if_pos (show 3 ≤ nI v from (le_nI (a := 3) (by omega) (by omega)).mpr (by omega)), if_pos hi, ltm_e, cl_nI (by omega)]
      rfl
    · have := (setP_re hM hkl (p := 0) (by decide) (lyr ls k).1).2
      have e : setP 0 ls k (lyr ls k).1 = ls := set_self hkl
      rw [e] at this
      exact this
  | succ m ih =>
    intro fuel v S μ y hv hf hM ho hm
    have h6 := hM.1
    rw [setP_len] at h6
    have hi : inb (nI k) 6 := inb_nI (by omega) (by omega)
    obtain ⟨fuel, rfl⟩ : ∃ f, fuel = f + 1 := ⟨fuel - 1, by omega⟩
    show ∃ μ', sX6_kinds_L26 (fX6_kinds_L26 (nI k) (lyr ls k).1 fuel) (nI k) (lyr ls k).1 (nI S) (nI v) μ = _ ∧ _
    unfold sX6_kinds_L26
    rw [if_neg (show ¬ 3 ≤ nI v from fun z => absurd ((le_nI (a := 3) (by omega) (by omega)).mp z) (by omega)), if_pos hi, ltm_e, cl_nI (by omega)]
    have hM1 : IsM (up2 μ 35 k (nI v)) (setP 0 ls k (nI v)) wm dm := (setP_re hM hkl (p := 0) (by decide) (nI v)).2
    have hok : okW (setP 0 ls k (nI v)) := setP_ok hk hkl (by simp; omega)
    have hm1 : IsRm (up2 μ 35 k (nI v)) rs := hm.fr (by rw [up2_n _ _ _ (by decide)]) (up2_n _ _ _ (by decide)) (up2_n _ _ _ (by decide)) (up2_n _ _ _ (by decide))
    have ho1 : IsO (up2 μ 35 k (nI v)) (List.range ls.length) := fun q hq => by rw [up2_n _ _ _ (by decide)]; exact ho q hq
    have ha := X6_areSo hM1 hok ho1 (by rw [List.length_range, setP_len]) (fun k hk => by rw [setP_len]; exact List.mem_range.mp hk) (range_nd _) hm1
    have er : (List.range ls.length).map (lyr (setP 0 ls k (nI v))) = setP 0 ls k (nI v) := by
      have := range_lyr (setP 0 ls k (nI v))
      rw [setP_len] at this
      exact this
    rw [er] at ha
    rw [ha, bnd_s]
    unfold fitS
    by_cases hb : agr rs (setP 0 ls k (nI v)) = true
    · rw [if_neg (by simp [hb, zo]), lti_e, lti_e, or_bit ⟨v, by omega⟩ S, nI_1]
      obtain ⟨μ', g1, g2, g3⟩ := ih fuel (v + 1) (S ||| 2 ^ v) _ (nI v) (by omega) (by omega) hM1 ho1 hm1
      refine ⟨μ', ?_, g2, fun i hi => by rw [g3 i hi, up2_n _ _ _ hi]⟩
      rw [g1]
      simp [hb]
    · rw [if_pos (by simp [hb, zo]), or_0, lti_e, lti_e, nI_1]
      obtain ⟨μ', g1, g2, g3⟩ := ih fuel (v + 1) S _ (nI v) (by omega) (by omega) hM1 ho1 hm1
      refine ⟨μ', ?_, g2, fun i hi => by rw [g3 i hi, up2_n _ _ _ hi]⟩
      rw [g1]
      simp [hb]
theorem op_kinds (x : Int32) : St (fX5_kinds x) (fX6_kinds x) := by
  rintro μ ⟨ls, wm, dm, rs, hR⟩
  have hR' := hR
  obtain ⟨⟨hW, hM, hk⟩, ⟨hd, hm⟩, -⟩ := hR
  have h6 := hW.1
  rcases lay_cs x ls.length h6 with ⟨k, hkl, rfl⟩ | hno
  · have hi : inb (nI k) 6 := inb_nI (by omega) (by omega)
    obtain ⟨μ1, e1, e2⟩ := X5_fit_L (p := 0) (most := 2) hk hkl (by decide) rfl 3 FU 0 0 μ rfl (by decide) hW hd
    have j1 := Jk.w9 e2
    have hM1 := hM.jk j1
    obtain ⟨μ2, o1, o2, o3⟩ := X6_orderAsIs hM1
    have hM2 := hM1.o39 o3
    have hm2 := (hm.jk j1).jk (Jk.o39 o3)
    have mc : μ2 35 k = (lyr ls k).1 := congrArg (fun t => t.1) (hM2.2.2.2.2 k hkl)
    have hM2' : IsM μ2 (setP 0 ls k (lyr ls k).1) wm dm := by
      have e : setP 0 ls k (lyr ls k).1 = ls := set_self hkl
      rw [e]; exact hM2
    obtain ⟨μ3, g1, g2, g3⟩ := X6_kinds_L (rs := rs) hk hkl 3 FU 0 0 μ2 _ rfl (by decide) hM2' o2 hm2
    refine ⟨nI (fitS (fun v => agr rs (setP 0 ls k (nI v))) 0 3 0), μ1, μ3, ?_, ?_, ls, wm, dm, rs, ((hR'.jk j1).jk (Jk.o39 o3)).wall (((hW.jk j1).jk (Jk.o39 o3)).fr (fun i h1 h2 => g3 i (by omega))) g2 hk (fun i hi => g3 i (by omega)) (by rw [g3 31 (by decide)]) (by rw [g3 31 (by decide)]) (by rw [g3 31 (by decide)])⟩
    · unfold fX5_kinds fX5_fitting
      rw [X4_layerAt hW hkl, bnd_s, oe_s]
      show bnd (fX5_fitting_L6 (nI k) (nI 0) (nI 2) FU (nI 0) (nI 0) μ) _ = _
      rw [e1, bnd_s]
    · unfold fX6_kinds
      rw [isLayer_yes hM1 hkl, bnd_s, if_neg (by decide), o1, bnd_s, if_pos hi, lti_e, cl_nI (by omega), mc]
      exact g1
  · refine ⟨-1, μ, μ, ?_, ?_, ls, wm, dm, rs, hR'⟩
    · unfold fX5_kinds
      rw [X4_layerNo hW hno, bnd_s, oe_n]
    · unfold fX6_kinds
      rw [isLayer_no hM hno, bnd_s, if_pos rfl]
