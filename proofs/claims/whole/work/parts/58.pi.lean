/-! PURE: readings that are noted and taken back; what could be in place of what is -/
theorem rdg_app {rs : List RT} {t : RT} {j : Nat} : rdg (rs ++ [t]) j = if j < rs.length then rdg rs j else if j = rs.length then t else (0, 0) := by
  unfold rdg
  rw [List.getD_eq_getElem?_getD, List.getD_eq_getElem?_getD]
  by_cases h : j < rs.length
  · rw [if_pos h, List.getElem?_append_left h]
  · rw [if_neg h, List.getElem?_append_right (by omega)]
    by_cases h2 : j = rs.length
    · subst h2; simp
    · rw [if_neg h2, List.getElem?_eq_none (by simp; omega)]
      rfl
theorem RR.rd {μ μ' : Mem} {ls : List LT} {wm dm : Int32} {rs rs' : List RT} (h : RR μ ls wm dm rs) (hd : IsRd μ' rs') (hm : IsRm μ' rs') (hc : ∀ i, (i ≤ 8 ∨ 22 ≤ i ∧ i ≤ 30 ∨ 32 ≤ i ∧ i ≤ 37) → μ' i = μ i) (hf : ∀ f, f ≠ 22 → μ' 31 f = μ 31 f) : RR μ' ls wm dm rs' := by
  obtain ⟨⟨a1, a2, a3⟩, -, c, d, e⟩ := h
  refine ⟨⟨a1.fr (fun i h1 h2 => hc i (by omega)), a2.fr (hf 5 (by decide)) (hf 6 (by decide)) (hf 7 (by decide)) (hc 35 (by omega)) (hc 36 (by omega)) (hc 37 (by omega)), a3⟩, ⟨hd, hm⟩, c.fr (fun i hi => hc i (by omega)), ?_, ?_⟩
  · rw [hc 0 (by omega), hf 1 (by decide)]; exact d
  · rw [hc 0 (by omega), hf 0 (by decide)]; exact e
theorem note_yes {μ : Mem} {rs : List RT} (h : IsRd μ rs) (hl : rs.length < 8) (a v : Int32) : ∃ μ', fX2_note a v μ = some (1, μ') ∧ IsRd μ' (rs ++ [(a, v)]) ∧ ∀ i, i ≠ 17 → i ≠ 18 → i ≠ 19 → μ' i = μ i := by
  obtain ⟨h8, hc, hj⟩ := h
  have hi : inb (nI rs.length) 8 := inb_nI hl (by omega)
  refine ⟨up2 (up2 (up2 μ 18 rs.length a) 19 rs.length v) 17 2 (nI (rs.length + 1)), ?_, ⟨by simp; omega, ?_, fun j hjl => ?_⟩, fun i h1 h2 h3 => ?_⟩
  · unfold fX2_note
    rw [hc, if_pos (show nI rs.length < 8 from (lt_nI (b := 8) (by omega) (by omega)).mpr hl), if_pos hi, ltm_e, up2_n _ _ _ (by decide), hc, if_pos hi, ltm_e, ltm_e, up2_n _ _ _ (by decide), up2_n _ _ _ (by decide), hc, nI_1, cl_nI (by omega)]
  · rw [up2_ks]; simp
  · rw [rdg_app]
    simp only [List.length_append, List.length_cons, List.length_nil] at hjl
    by_cases hje : j = rs.length
    · subst hje
      simp [up2_ap]
    · rw [if_pos (by omega), ← hj j (by omega)]
      simp [up2_ap, hje]
  · rw [up2_n _ _ _ h1, up2_n _ _ _ h3, up2_n _ _ _ h2]
theorem note_no {μ : Mem} {rs : List RT} (h : IsRd μ rs) (hl : rs.length = 8) (a v : Int32) : fX2_note a v μ = some (0, μ) := by
  unfold fX2_note
  rw [h.2.1, hl, if_neg (show ¬ nI 8 < 8 from by decide)]
def rdM (a b v : Int32) (μ : Mem) : Option (Int32 × Mem) := if (μ 31 5) = 0 then some ((-3 : Int32), μ) else (if (μ 31 22) = (8 : Int32) then some ((-4 : Int32), μ) else if inb (μ 31 22) 8 then ltm (up2 μ 41 ((μ 31 22)).toNatClampNeg a) (fun μ_14 => if inb (μ_14 31 22) 8 then ltm (up2 μ_14 42 ((μ_14 31 22)).toNatClampNeg b) (fun μ_15 => if inb (μ_15 31 22) 8 then ltm (up2 μ_15 43 ((μ_15 31 22)).toNatClampNeg v) (fun μ_16 => ltm (up2 μ_16 31 22 ((μ_16 31 22) + (1 : Int32))) (fun μ_17 => some (((μ_17 31 22) - (1 : Int32)), μ_17))) else none) else none) else none)
theorem rdM_yes {μ : Mem} {rs : List RT} (h : IsRm μ rs) (hl : rs.length < 8) (h5 : ¬ μ 31 5 = 0) (a b v : Int32) : ∃ μ', rdM a b v μ = some (nI rs.length, μ') ∧ IsRm μ' (rs ++ [(a - b, v)]) ∧ (∀ i, i ≠ 31 → i ≠ 41 → i ≠ 42 → i ≠ 43 → μ' i = μ i) ∧ ∀ f, f ≠ 22 → μ' 31 f = μ 31 f := by
  obtain ⟨h8, hc, hj⟩ := h
  have hi : inb (nI rs.length) 8 := inb_nI hl (by omega)
  refine ⟨up2 (up2 (up2 (up2 μ 41 rs.length a) 42 rs.length b) 43 rs.length v) 31 22 (nI (rs.length + 1)), ?_, ⟨by simp; omega, ?_, fun j hjl => ?_⟩, fun i h1 h2 h3 h4 => ?_, fun f hf => ?_⟩
  · unfold rdM
    rw [if_neg h5, hc, if_neg (show ¬ nI rs.length = 8 from fun z => absurd ((nI_eq (b := 8) (by omega) (by omega)).mp z) (by omega)), if_pos hi, ltm_e, up2_n _ _ _ (by decide), hc, if_pos hi, ltm_e, up2_n _ _ _ (by decide), up2_n _ _ _ (by decide), hc, if_pos hi, ltm_e, ltm_e, up2_ks, up2_n _ _ _ (by decide), up2_n _ _ _ (by decide), up2_n _ _ _ (by decide), hc, nI_1, nI_pred, cl_nI (by omega)]
  · rw [up2_ks]; simp
  · rw [rdg_app]
    simp only [List.length_append, List.length_cons, List.length_nil] at hjl
    by_cases hje : j = rs.length
    · subst hje
      simp [up2_ap]
    · rw [if_pos (by omega), ← hj j (by omega)]
      simp [up2_ap, hje]
  · rw [up2_n _ _ _ h1, up2_n _ _ _ h4, up2_n _ _ _ h3, up2_n _ _ _ h2]
  · rw [up2_kn _ _ hf, up2_n _ _ _ (by decide), up2_n _ _ _ (by decide), up2_n _ _ _ (by decide)]
def rdX (a b v : Int32) (μ : Mem) : Option (Int32 × Mem) := bnd (fX4_stands 1 μ) (fun r_12 μ_10 => (if r_12 = 0 then some ((-3 : Int32), μ_10) else bnd (fX2_note (a - b) v μ_10) (fun r_15 μ_13 => (if r_15 = 0 then some ((-4 : Int32), μ_13) else some (((μ_13 17 2) - (1 : Int32)), μ_13)))))
theorem rd_both (a b v : Int32) : St (rdX a b v) (rdM a b v) := by
  rintro μ ⟨ls, wm, dm, rs, hR⟩
  have hR' := hR
  obtain ⟨⟨hW, hM, hk⟩, ⟨hd, hm⟩, -⟩ := hR
  have h6 := hW.1
  have h8 := hd.1
  by_cases h0 : ls.length = 0
  · refine ⟨-3, μ, μ, ?_, ?_, ls, wm, dm, rs, hR'⟩
    · unfold rdX
      rw [stands_eq hW, bnd_s, if_pos (by simp [h0, zo])]
    · unfold rdM
      rw [hM.2.1, if_pos ((zero_iff (by omega)).mpr h0)]
  · have n0 : ¬ nI ls.length = 0 := fun z => h0 ((zero_iff (by omega)).mp z)
    have hs : ¬ zo (decide (0 < ls.length)) = 0 := by
      have : 0 < ls.length := by omega
      simp [this, zo]
    by_cases hf : rs.length = 8
    · refine ⟨-4, μ, μ, ?_, ?_, ls, wm, dm, rs, hR'⟩
      · unfold rdX
        rw [stands_eq hW, bnd_s, if_neg hs, note_no hd hf, bnd_s, if_pos rfl]
      · unfold rdM
        rw [hM.2.1, if_neg n0, hm.2.1, hf, if_pos (show nI 8 = 8 from rfl)]
    · obtain ⟨μ1, e1, e2, e3⟩ := note_yes hd (by omega) (a - b) v
      have hm1 : IsRm μ1 rs := hm.fr (by rw [e3 31 (by decide) (by decide) (by decide)]) (e3 41 (by decide) (by decide) (by decide)) (e3 42 (by decide) (by decide) (by decide)) (e3 43 (by decide) (by decide) (by decide))
      obtain ⟨μ2, f1, f2, f3, f4⟩ := rdM_yes hm1 (by omega) (by rw [e3 31 (by decide) (by decide) (by decide), hM.2.1]; exact n0) a b v
      refine ⟨nI rs.length, μ1, μ2, ?_, f1, ls, wm, dm, rs ++ [(a - b, v)], hR'.rd (e2.fr (f3 17 (by decide) (by decide) (by decide) (by decide)) (f3 18 (by decide) (by decide) (by decide) (by decide)) (f3 19 (by decide) (by decide) (by decide) (by decide))) f2 (fun i hi => ?_) (fun f hf => ?_)⟩
      · unfold rdX
        rw [stands_eq hW, bnd_s, if_neg hs, e1, bnd_s, if_neg (by decide), e2.2.1]
        simp only [List.length_append, List.length_cons, List.length_nil]
        rw [nI_pred]
      · rw [f3 i (by omega) (by omega) (by omega) (by omega), e3 i (by omega) (by omega) (by omega)]
      · rw [f4 f hf, e3 31 (by decide) (by decide) (by decide)]
theorem op_reading (a b v : Int32) : St (fX5_reading a b v) (fX6_reading a b v) := by
  by_cases ha : zu a 20 = 0
  · rintro μ hR
    refine ⟨-2, μ, μ, ?_, ?_, hR⟩
    · unfold fX5_reading
      rw [isUpTo_eq, bnd_s, if_pos ha]
    · unfold fX6_reading
      rw [within_eq, bnd_s, if_pos ha]
  · by_cases hb : zu b 9 = 0
    · rintro μ hR
      refine ⟨-2, μ, μ, ?_, ?_, hR⟩
      · unfold fX5_reading
        rw [isUpTo_eq, bnd_s, if_neg ha, isUpTo_eq, bnd_s, if_pos hb]
      · unfold fX6_reading
        rw [within_eq, bnd_s, if_neg ha, isDigit_eq, bnd_s, if_pos hb]
    · by_cases hv : zu v 9 = 0 ∧ ¬ v = -9
      · rintro μ hR
        refine ⟨-2, μ, μ, ?_, ?_, hR⟩
        · unfold fX5_reading
          rw [isUpTo_eq, bnd_s, if_neg ha, isUpTo_eq, bnd_s, if_neg hb, isUpTo_eq, bnd_s, if_pos hv.1, if_neg hv.2]
        · unfold fX6_reading
          rw [within_eq, bnd_s, if_neg ha, isDigit_eq, bnd_s, if_neg hb, isDigit_eq, bnd_s, if_pos hv.1, if_neg hv.2]
      · have e5 : fX5_reading a b v = rdX a b v := by
          funext μ
          unfold fX5_reading
          rw [isUpTo_eq, bnd_s, if_neg ha, isUpTo_eq, bnd_s, if_neg hb, isUpTo_eq, bnd_s]
          by_cases h1 : zu v 9 = 0
          · have h2 : v = -9 := Classical.byContradiction (fun z => hv ⟨h1, z⟩)
            rw [if_pos h1, if_pos h2]
            rfl
          · rw [if_neg h1]
            rfl
        have e6 : fX6_reading a b v = rdM a b v := by
          funext μ
          unfold fX6_reading
          rw [within_eq, bnd_s, if_neg ha, isDigit_eq, bnd_s, if_neg hb, isDigit_eq, bnd_s]
          by_cases h1 : zu v 9 = 0
          · have h2 : v = -9 := Classical.byContradiction (fun z => hv ⟨h1, z⟩)
            rw [if_pos h1, if_pos h2]
            rfl
          · rw [if_neg h1]
            rfl
        rw [e5, e6]
        exact rd_both a b v
theorem rdg_take {rs : List RT} {n k : Nat} (h : k < n) : rdg (rs.take n) k = rdg rs k := by
  unfold rdg
  rw [List.getD_eq_getElem?_getD, List.getD_eq_getElem?_getD, List.getElem?_take_of_lt h]
theorem op_back (x : Int32) : St (fX5_back x) (fX6_back x) := by
  rintro μ ⟨ls, wm, dm, rs, hR⟩
  have hR' := hR
  obtain ⟨-, ⟨hd, hm⟩, -⟩ := hR
  have h8 := hd.1
  rcases zu_cs x rs.length (by omega) with hz | ⟨hz, j, hj, rfl⟩
  · refine ⟨-2, μ, μ, ?_, ?_, ls, wm, dm, rs, hR'⟩
    · unfold fX5_back
      rw [hd.2.1, isUpTo_eq, bnd_s, if_pos hz]
    · unfold fX6_back
      rw [hm.2.1, within_eq, bnd_s, if_pos hz]
  · have es : nI rs.length - nI j = nI (rs.length - j) := pk_sub hj
    refine ⟨nI (rs.length - j), up2 μ 17 2 (nI (rs.length - j)), up2 (up2 μ 17 2 (nI (rs.length - j))) 31 22 (nI (rs.length - j)), ?_, ?_, ls, wm, dm, rs.take (rs.length - j), hR'.rd ?_ ?_ (fun i hi => ?_) (fun f hf => ?_)⟩
    · unfold fX5_back
      rw [hd.2.1, isUpTo_eq, bnd_s, if_neg (zu_n0 hz), hd.2.1, es, ltm_e, up2_ks]
    · unfold fX6_back
      rw [up2_n _ _ _ (by decide), hm.2.1, within_eq, bnd_s, if_neg (zu_n0 hz), up2_n _ _ _ (by decide), hm.2.1, es, ltm_e, up2_ks]
    · refine ⟨by rw [List.length_take]; omega, ?_, fun q hq => ?_⟩
      · rw [up2_n _ _ _ (by decide), up2_ks, List.length_take, Nat.min_eq_left (by omega)]
      · rw [List.length_take] at hq
        rw [up2_n _ _ _ (by decide), up2_n _ _ _ (by decide), up2_n _ _ _ (by decide), up2_n _ _ _ (by decide), rdg_take (by omega)]
        exact hd.2.2 q (by omega)
    · refine ⟨by rw [List.length_take]; omega, ?_, fun q hq => ?_⟩
      · rw [up2_ks, List.length_take, Nat.min_eq_left (by omega)]
      · rw [List.length_take] at hq
        rw [up2_n _ _ _ (by decide), up2_n _ _ _ (by decide), up2_n _ _ _ (by decide), up2_n _ _ _ (by decide), up2_n _ _ _ (by decide), up2_n _ _ _ (by decide), rdg_take (by omega)]
        exact hm.2.2 q (by omega)
    · rw [up2_n _ _ _ (by omega), up2_n _ _ _ (by omega)]
    · rw [up2_kn _ _ hf, up2_n _ _ _ (by decide)]
/-! holds, advices, kinds -/
def fitS (P : Nat → Bool) : Nat → Nat → Nat → Nat
  | _, 0, S => S
  | v, m + 1, S => fitS P (v + 1) m (if P v then S ||| 2 ^ v else S)
theorem or_bit : ∀ (v : Fin 10) (S : Nat), (nI S ||| ((1 : Int32) <<< (nI v.val &&& 31))) = nI (S ||| 2 ^ v.val) := by
  intro v S
  have : ((1 : Int32) <<< (nI v.val &&& 31)) = nI (2 ^ v.val) := by revert v; decide +kernel
  rw [this]
  apply Int32.toBitVec_inj.mp
  show BitVec.ofNat 32 S ||| BitVec.ofNat 32 (2 ^ v.val) = BitVec.ofNat 32 (S ||| 2 ^ v.val)
  apply BitVec.eq_of_getLsbD_eq
  intro i hi
  simp [BitVec.getLsbD_ofNat, hi]
theorem or_0 (x : Int32) : x ||| 0 = x := by
  apply Int32.toBitVec_inj.mp
  show x.toBitVec ||| 0#32 = x.toBitVec
  exact BitVec.or_zero
/-- the wall as it would be, if a part of layer k were v -/
def setP (p : Nat) (ls : List LT) (k : Nat) (v : Int32) : List LT := if p = 0 then setK ls k v else if p = 1 then setH ls k v else setA ls k v
theorem setP_len (p : Nat) (ls : List LT) (k : Nat) (v : Int32) : (setP p ls k v).length = ls.length := by
  unfold setP setK setH setA
  split
  · exact List.length_set
  · split <;> exact List.length_set
theorem setP_ok {p : Nat} {ls : List LT} (hk : okW ls) {k : Nat} (hkl : k < ls.length) {v : Nat} (hv : if p = 0 then v ≤ 2 else v ≤ 9) : okW (setP p ls k (nI v)) := by
  have o := hk _ (lyr_mem hkl)
  unfold setP
  by_cases h0 : p = 0
  · rw [if_pos h0] at hv ⊢
    exact okW_set hk ⟨kd_ok hv, o.2.1, o.2.2⟩
  · rw [if_neg h0] at hv ⊢
    split
    · exact okW_set hk ⟨o.1, ⟨v, hv, rfl⟩, o.2.2⟩
    · exact okW_set hk ⟨o.1, o.2.1, ⟨v, hv, rfl⟩⟩
theorem X5_fit_L {ls : List LT} {wm dm : Int32} {rs : List RT} (hk : okW ls) {k p : Nat} (hkl : k < ls.length) (hp : p < 3) {most : Nat} (hmost : most = if p = 0 then 2 else 9) : ∀ (m fuel v S : Nat) (μ : Mem), v + m = most + 1 → m < fuel → IsW μ 1 ls wm dm → IsRd μ rs →
    ∃ μ', fX5_fitting_L6 (nI k) (nI p) (nI most) fuel (nI S) (nI v) μ = some (nI (fitS (fun v => agr rs (setP p ls k (nI v))) v m S), μ') ∧ FrW μ μ' 9 := by
  have hm9 : most ≤ 9 := by subst hmost; split <;> omega
  intro m
  induction m with
  | zero =>
    intro fuel v S μ hv hf hW hd
    obtain ⟨fuel, rfl⟩ : ∃ f, fuel = f + 1 := ⟨fuel - 1, by omega⟩
    refine ⟨μ, ?_, FrW.rf⟩
    show sX5_fitting_L6 (fX5_fitting_L6 (nI k) (nI p) (nI most) fuel) (nI k) (nI p) (nI most) (nI S) (nI v) μ = _
    unfold sX5_fitting_L6
    rw [if_pos ((lt_nI (by omega) (by omega)).mpr (by omega))]
    rfl
  | succ m ih =>
    intro fuel v S μ hv hf hW hd
    obtain ⟨fuel, rfl⟩ : ∃ f, fuel = f + 1 := ⟨fuel - 1, by omega⟩
    show ∃ μ', sX5_fitting_L6 (fX5_fitting_L6 (nI k) (nI p) (nI most) fuel) (nI k) (nI p) (nI most) (nI S) (nI v) μ = _ ∧ _
    unfold sX5_fitting_L6
    rw [if_neg (fun z => absurd ((lt_nI (by omega) (by omega)).mp z) (by omega))]
    obtain ⟨μ1, e1, e2, e3⟩ := X4_become hW
    rw [e1, bnd_s]
    have hch : ∃ μ', fX4_change 9 (nI k) (nI p) (nI v) μ1 = some ((), μ') ∧ IsW μ' 9 (setP p ls k (nI v)) wm dm ∧ FrW μ1 μ' 9 := by
      obtain ⟨c0, c1, c2⟩ := X4_change e2 hkl (nI v)
      have : p = 0 ∨ p = 1 ∨ p = 2 := by omega
      rcases this with rfl | rfl | rfl
      · exact c0
      · exact c1
      · exact c2
    obtain ⟨μ2, f1, f2, f3⟩ := hch
    have hd2 : IsRd μ2 rs := hd.fr (by rw [f3 17 (by omega), e3 17 (by omega)]) (by rw [f3 18 (by omega), e3 18 (by omega)]) (by rw [f3 19 (by omega), e3 19 (by omega)])
    have hok : okW (setP p ls k (nI v)) := setP_ok hk hkl (by rw [hmost] at hv; split at hv <;> split <;> omega)
    rw [f1, bnd_s, X2_agreeWith f2 hok hd2, bnd_s]
    have hfr := e3.tr f3
    have hW2 : IsW μ2 1 ls wm dm := hW.fr (fun i h1 h2 => hfr i (by omega))
    unfold fitS
    by_cases ha : agr rs (setP p ls k (nI v)) = true
    · rw [if_neg (by simp [ha, zo]), lti_e, lti_e, or_bit ⟨v, by omega⟩ S, nI_1]
      obtain ⟨μ', g1, g2⟩ := ih fuel (v + 1) (S ||| 2 ^ v) μ2 (by omega) (by omega) hW2 hd2
      refine ⟨μ', ?_, hfr.tr g2⟩
      rw [g1]
      simp [ha]
    · rw [if_pos (by simp [ha, zo]), lti_e, nI_1]
      obtain ⟨μ', g1, g2⟩ := ih fuel (v + 1) S μ2 (by omega) (by omega) hW2 hd2
      refine ⟨μ', ?_, hfr.tr g2⟩
      rw [g1]
      simp [ha]
