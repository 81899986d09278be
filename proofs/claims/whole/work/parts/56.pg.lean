/-! PURE: more calls -/
def pcR : Nat → Nat → Nat
  | 0, _ => 0
  | m + 1, x => x % 2 + pcR m (x / 2)
theorem pcR_0 : ∀ m, pcR m 0 = 0
  | 0 => rfl
  | m + 1 => by unfold pcR; rw [Nat.zero_div, pcR_0 m]
theorem X6_size_L (μ : Mem) : ∀ (m fuel n x : Nat), x < 2 ^ m → m ≤ 6 → m < fuel → fX6_size_L4 fuel (nI n) (nI x) μ = some (nI (n + pcR m x), μ)
  | 0, fuel + 1, n, x, hx, _, _ => by
    have e : x = 0 := by simpa using hx
    subst e
    show sX6_size_L4 (fX6_size_L4 fuel) (nI n) (nI 0) μ = _
    unfold sX6_size_L4
    rw [if_pos (by decide)]
    rfl
  | m + 1, fuel + 1, n, x, hx, h6, hf => by
    show sX6_size_L4 (fX6_size_L4 fuel) (nI n) (nI x) μ = _
    unfold sX6_size_L4
    have h64 : 2 ^ (m + 1) ≤ 2 ^ 6 := Nat.pow_le_pow_right (by decide) h6
    have hx64 : x < 64 := Nat.lt_of_lt_of_le hx h64
    by_cases h0 : x = 0
    · subst h0
      rw [if_pos (by decide), pcR_0]
      rfl
    · rw [if_neg (show ¬ nI x ≤ 0 from fun z => absurd ((le_nI (b := 0) (by omega) (by omega)).mp z) (by omega)), lti_e, lti_e]
      have a1 : nI x &&& 1 = nI (x % 2) := pk_andN (by omega) 1 (by decide)
      have a2 : nI x >>> ((1 : Int32) &&& 31) = nI (x / 2) := pk_shrN (by omega) _ 1 (by decide)
      rw [a1, a2, nI_add, X6_size_L μ m fuel (n + x % 2) (x / 2) (by rw [Nat.pow_succ] at hx; omega) (by omega) (by omega)]
      simp only [pcR]
      rw [Nat.add_assoc]
  | 0, 0, _, _, _, _, h => absurd h (by omega)
  | m + 1, 0, _, _, _, _, h => absurd h (by omega)
theorem X6_size {x : Nat} (hx : x < 64) (μ : Mem) : fX6_size (nI x) μ = some (nI (pcR 6 x), μ) := by
  have := X6_size_L μ 6 FU 0 x hx (by decide) (by decide)
  rw [Nat.zero_add] at this
  exact this
theorem pc_first : ∀ h : Fin 7, pcR 6 (2 ^ h.val - 1) = h.val ∧ 2 ^ h.val - 1 < 64 := by decide +kernel
theorem bit_first : ∀ (l : Fin 7) (k : Fin 6), ((nI (2 ^ l.val - 1) >>> (nI k.val &&& 31)) &&& 1) = if k.val < l.val then 1 else 0 := by decide +kernel
theorem op_many (x : Int32) : St (fX5_many x) (fX6_many x) := by
  refine St.jk (fun μ ls wm dm rs hR => ?_)
  obtain ⟨⟨hW, hM, hk⟩, ⟨hd, hm⟩, -⟩ := hR
  have h6 := hW.1
  have hl := hrd_len (wm - dm) ls
  unfold fX5_many fX6_many
  by_cases h0 : x = 0
  · refine ⟨nI ls.length, μ, μ, ?_, Jk.rf, ?_, Jk.rf⟩
    · rw [if_pos h0, hW.2.1]
    · rw [if_pos h0, hM.2.1]
  · by_cases h1 : x = 1
    · refine ⟨wm, μ, μ, ?_, Jk.rf, ?_, Jk.rf⟩
      · rw [if_neg h0, if_pos h1, hW.2.2.1]
      · rw [if_neg h0, if_pos h1, hM.2.2.1]
    · by_cases h2 : x = 2
      · refine ⟨dm, μ, μ, ?_, Jk.rf, ?_, Jk.rf⟩
        · rw [if_neg h0, if_neg h1, if_pos h2, hW.2.2.2.1]
        · rw [if_neg h0, if_neg h1, if_pos h2, hM.2.2.2.1]
      · by_cases h3 : x = 3
        · have ea : (if x = 0 then some ((μ 1 1), μ) else if x = 1 then some ((μ 1 2), μ) else if x = 2 then some ((μ 1 3), μ) else if x = 3 then bnd (fX4_warmth 1 μ) (fun r_3 μ_1 => bnd (fX4_heardBy 1 r_3 μ_1) (fun r_6 μ_4 => some (r_6, μ_4))) else if x = 4 then some ((μ 17 2), μ) else some ((-2 : Int32), μ)) = some (nI (hrd (wm - dm) ls).length, μ) := by
            rw [if_neg h0, if_neg h1, if_neg h2, if_pos h3]
            show bnd (some (μ 1 2 - μ 1 3, μ)) _ = _
            rw [bnd_s, hW.2.2.1, hW.2.2.2.1, X4_heardBy hW, bnd_s]
          by_cases hz : ls.length = 0
          · refine ⟨nI (hrd (wm - dm) ls).length, μ, μ, ea, Jk.rf, ?_, Jk.rf⟩
            have e : (hrd (wm - dm) ls).length = 0 := by omega
            rw [if_neg h0, if_neg h1, if_neg h2, if_pos h3, hM.2.1, if_pos ((zero_iff (by omega)).mpr hz), e]
            rfl
          · obtain ⟨μ', e1, e2⟩ := X6_heardNow hM hk
            have hp := pc_first ⟨(hrd (wm - dm) ls).length, by omega⟩
            dsimp only at hp
            refine ⟨nI (hrd (wm - dm) ls).length, μ, μ', ea, Jk.rf, ?_, Jk.o39 e2⟩
            rw [if_neg h0, if_neg h1, if_neg h2, if_pos h3, hM.2.1, if_neg (fun z => hz ((zero_iff (by omega)).mp z)), e1, bnd_s, X6_size hp.2, bnd_s, hp.1]
        · by_cases h4 : x = 4
          · refine ⟨nI rs.length, μ, μ, ?_, Jk.rf, ?_, Jk.rf⟩
            · rw [if_neg h0, if_neg h1, if_neg h2, if_neg h3, if_pos h4, hd.2.1]
            · rw [if_neg h0, if_neg h1, if_neg h2, if_neg h3, if_pos h4, hm.2.1]
          · refine ⟨-2, μ, μ, ?_, Jk.rf, ?_, Jk.rf⟩ <;> rw [if_neg h0, if_neg h1, if_neg h2, if_neg h3, if_neg h4]
theorem op_ofLayer (x y : Int32) : St (fX5_ofLayer x y) (fX6_ofLayer x y) := by
  refine St.jk (fun μ ls wm dm rs hR => ?_)
  obtain ⟨⟨hW, hM, hk⟩, -⟩ := hR
  have h6 := hW.1
  rcases lay_cs x ls.length h6 with ⟨k, hkl, rfl⟩ | hno
  · have hi : inb (nI k) 6 := inb_nI (by omega) (by omega)
    have q := hW.2.2.2.2 k hkl
    have q0 : μ (1 + 1 + 1 + k) 0 = (lyr ls k).1 := congrArg Prod.fst q
    have q1 : μ (1 + 1 + 1 + k) 1 = (lyr ls k).2.1 := congrArg (fun t => t.2.1) q
    have q2 : μ (1 + 1 + 1 + k) 2 = (lyr ls k).2.2 := congrArg (fun t => t.2.2) q
    have m := hM.2.2.2.2 k hkl
    have m0 : μ 35 k = (lyr ls k).1 := congrArg Prod.fst m
    have m1 : μ 36 k = (lyr ls k).2.1 := congrArg (fun t => t.2.1) m
    have m2 : μ 37 k = (lyr ls k).2.2 := congrArg (fun t => t.2.2) m
    unfold fX5_ofLayer fX6_ofLayer
    rw [X4_layerAt hW hkl, bnd_s, oe_s]
    have c1 : ¬ (1 : Int32) = 0 := by decide
    by_cases h0 : y = 0
    · refine ⟨(lyr ls k).1, μ, μ, ?_, Jk.rf, ?_, Jk.rf⟩
      · rw [if_pos h0, q0]
      · rw [isLayer_yes hM hkl, bnd_s, if_neg c1, if_pos h0, if_pos hi, cl_nI (by omega), m0]
    · by_cases h1 : y = 1
      · refine ⟨(lyr ls k).2.1, μ, μ, ?_, Jk.rf, ?_, Jk.rf⟩
        · rw [if_neg h0, if_pos h1, q1]
        · rw [isLayer_yes hM hkl, bnd_s, if_neg c1, if_neg h0, if_pos h1, if_pos hi, cl_nI (by omega), m1]
      · by_cases h2 : y = 2
        · refine ⟨(lyr ls k).2.2, μ, μ, ?_, Jk.rf, ?_, Jk.rf⟩
          · rw [if_neg h0, if_neg h1, if_pos h2, q2]
          · rw [isLayer_yes hM hkl, bnd_s, if_neg c1, if_neg h0, if_neg h1, if_pos h2, if_pos hi, cl_nI (by omega), m2]
        · by_cases h3 : y = 3
          · refine ⟨grp (lyr ls k), μ, μ, ?_, Jk.rf, ?_, Jk.rf⟩
            · rw [if_neg h0, if_neg h1, if_neg h2, if_pos h3, grip_eq, bnd_s, q]
            · rw [isLayer_yes hM hkl, bnd_s, if_neg c1, if_neg h0, if_neg h1, if_neg h2, if_pos h3, X6_gripOf hM hk hkl, bnd_s]
          · by_cases h4 : y = 4
            · have hl : (lft (wm - dm) ls).length ≤ ls.length := tw_len ls
              obtain ⟨μ', e1, e2⟩ := X6_liftedNow hM hk
              have hb := bit_first ⟨(lft (wm - dm) ls).length, by omega⟩ ⟨k, by omega⟩
              dsimp only at hb
              refine ⟨if k < (lft (wm - dm) ls).length then 1 else 0, μ, μ', ?_, Jk.rf, ?_, Jk.o39 e2⟩
              · rw [if_neg h0, if_neg h1, if_neg h2, if_neg h3, if_pos h4]
                show bnd (some (μ 1 2 - μ 1 3, μ)) _ = _
                rw [bnd_s, hW.2.2.1, hW.2.2.2.1, X4_liftedBy hW, bnd_s]
                by_cases hlt : k < (lft (wm - dm) ls).length
                · rw [if_neg (fun z => absurd ((le_nI (by omega) (by omega)).mp z) (by omega)), if_pos hlt]
                · rw [if_pos ((le_nI (by omega) (by omega)).mpr (by omega)), if_neg hlt]
              · rw [isLayer_yes hM hkl, bnd_s, if_neg c1, if_neg h0, if_neg h1, if_neg h2, if_neg h3, if_pos h4, e1, bnd_s, hb]
            · by_cases h5 : y = 5
              · have hl := hrd_len (wm - dm) ls
                obtain ⟨μ', e1, e2⟩ := X6_heardNow hM hk
                have hb := bit_first ⟨(hrd (wm - dm) ls).length, by omega⟩ ⟨k, by omega⟩
                dsimp only at hb
                refine ⟨if k < (hrd (wm - dm) ls).length then 1 else 0, μ, μ', ?_, Jk.rf, ?_, Jk.o39 e2⟩
                · rw [if_neg h0, if_neg h1, if_neg h2, if_neg h3, if_neg h4, if_pos h5]
                  show bnd (some (μ 1 2 - μ 1 3, μ)) _ = _
                  rw [bnd_s, hW.2.2.1, hW.2.2.2.1, X4_heardBy hW, bnd_s]
                  by_cases hlt : k < (hrd (wm - dm) ls).length
                  · rw [if_neg (fun z => absurd ((le_nI (by omega) (by omega)).mp z) (by omega)), if_pos hlt]
                  · rw [if_pos ((le_nI (by omega) (by omega)).mpr (by omega)), if_neg hlt]
                · rw [isLayer_yes hM hkl, bnd_s, if_neg c1, if_neg h0, if_neg h1, if_neg h2, if_neg h3, if_neg h4, if_pos h5, e1, bnd_s, hb]
              · refine ⟨-2, μ, μ, ?_, Jk.rf, ?_, Jk.rf⟩
                · rw [if_neg h0, if_neg h1, if_neg h2, if_neg h3, if_neg h4, if_neg h5]
                · rw [isLayer_yes hM hkl, bnd_s, if_neg c1, if_neg h0, if_neg h1, if_neg h2, if_neg h3, if_neg h4, if_neg h5]
  · unfold fX5_ofLayer fX6_ofLayer
    refine ⟨-1, μ, μ, ?_, Jk.rf, ?_, Jk.rf⟩
    · rw [X4_layerNo hW hno, bnd_s, oe_n]
    · rw [isLayer_no hM hno, bnd_s, if_pos rfl]
def nds (ls : List LT) (dm : Int32) (k : Nat) : Nat → Nat → Int32
  | _, 0 => -9
  | a, m + 1 => if k < (hrd (nI a - dm) ls).length then nI a else nds ls dm k (a + 1) m
theorem X5_needs_L {μ : Mem} {ls : List LT} {wm dm : Int32} (h : IsW μ 1 ls wm dm) {k : Nat} (hk : k < ls.length) : ∀ (m fuel a : Nat), a + m = 21 → m < fuel → fX5_needs_L15 (nI k) fuel (nI a) μ = some (nds ls dm k a m, μ)
  | 0, fuel + 1, a, ha, _ => by
    show sX5_needs_L15 (fX5_needs_L15 (nI k) fuel) (nI k) (nI a) μ = _
    unfold sX5_needs_L15
    rw [if_pos (show 20 < nI a from (lt_nI (a := 20) (by omega) (by omega)).mpr (by omega))]
    rfl
  | m + 1, fuel + 1, a, ha, hf => by
    have h6 := h.1
    have hl := hrd_len (nI a - dm) ls
    show sX5_needs_L15 (fX5_needs_L15 (nI k) fuel) (nI k) (nI a) μ = _
    unfold sX5_needs_L15
    rw [if_neg (show ¬ 20 < nI a from fun z => absurd ((lt_nI (a := 20) (by omega) (by omega)).mp z) (by omega)), h.2.2.2.1, X4_heardBy h, bnd_s]
    unfold nds
    by_cases hlt : k < (hrd (nI a - dm) ls).length
    · rw [if_neg (fun z => absurd ((le_nI (by omega) (by omega)).mp z) (by omega)), if_pos hlt]
    · rw [if_pos ((le_nI (by omega) (by omega)).mpr (by omega)), if_neg hlt, lti_e, nI_1]
      exact X5_needs_L h hk m fuel (a + 1) (by omega) (by omega)
  | 0, 0, _, _, hf => absurd hf (by omega)
  | m + 1, 0, _, _, hf => absurd hf (by omega)
theorem of_first : ∀ (l : Fin 7) (k : Fin 6), (((nI (2 ^ l.val - 1) >>> (nI k.val &&& 31)) &&& 1) = 1) ↔ k.val < l.val := by decide +kernel
theorem X6_needs_L {μ : Mem} {ls : List LT} {wm dm : Int32} (h : IsM μ ls wm dm) (hok : okW ls) (ho : IsO μ (List.range ls.length)) {k : Nat} (hk : k < ls.length) : ∀ (m fuel a : Nat), a + m = 21 → m < fuel → fX6_needs_L16 (nI k) fuel (nI a) μ = some (nds ls dm k a m, μ)
  | 0, fuel + 1, a, ha, _ => by
    show sX6_needs_L16 (fX6_needs_L16 (nI k) fuel) (nI k) (nI a) μ = _
    unfold sX6_needs_L16
    rw [if_pos (show 20 < nI a from (lt_nI (a := 20) (by omega) (by omega)).mpr (by omega))]
    rfl
  | m + 1, fuel + 1, a, ha, hf => by
    have h6 := h.1
    have hl := hrd_len (nI a - dm) ls
    show sX6_needs_L16 (fX6_needs_L16 (nI k) fuel) (nI k) (nI a) μ = _
    unfold sX6_needs_L16
    rw [if_neg (show ¬ 20 < nI a from fun z => absurd ((lt_nI (a := 20) (by omega) (by omega)).mp z) (by omega)), h.2.2.2.1, X6_heardIdx h hok ho, bnd_s]
    unfold fX6_isOf nds
    have hb := of_first ⟨(hrd (nI a - dm) ls).length, by omega⟩ ⟨k, by omega⟩
    dsimp only at hb
    by_cases hlt : k < (hrd (nI a - dm) ls).length
    · rw [if_pos (hb.mpr hlt), bnd_s, if_neg (by decide), if_pos hlt]
    · rw [if_neg (fun z => hlt (hb.mp z)), bnd_s, if_pos rfl, if_neg hlt, lti_e, nI_1]
      exact X6_needs_L h hok ho hk m fuel (a + 1) (by omega) (by omega)
  | 0, 0, _, _, hf => absurd hf (by omega)
  | m + 1, 0, _, _, hf => absurd hf (by omega)
theorem op_needs (x : Int32) : St (fX5_needs x) (fX6_needs x) := by
  refine St.jk (fun μ ls wm dm rs hR => ?_)
  obtain ⟨⟨hW, hM, hk⟩, -⟩ := hR
  have h6 := hW.1
  rcases lay_cs x ls.length h6 with ⟨k, hkl, rfl⟩ | hno
  · obtain ⟨μ', e1, e2, e3⟩ := X6_orderAsIs hM
    refine ⟨nds ls dm k 0 21, μ, μ', ?_, Jk.rf, ?_, Jk.o39 e3⟩
    · unfold fX5_needs
      rw [X4_layerAt hW hkl, bnd_s, oe_s]
      exact X5_needs_L hW hkl 21 FU 0 rfl (by decide)
    · unfold fX6_needs
      rw [isLayer_yes hM hkl, bnd_s, if_neg (by decide), e1, bnd_s]
      exact X6_needs_L (hM.o39 e3) hk e2 hkl 21 FU 0 rfl (by decide)
  · refine ⟨-1, μ, μ, ?_, Jk.rf, ?_, Jk.rf⟩
    · unfold fX5_needs
      rw [X4_layerNo hW hno, bnd_s, oe_n]
    · unfold fX6_needs
      rw [isLayer_no hM hno, bnd_s, if_pos rfl]
def gts (ls : List LT) (dm v : Int32) : Nat → Nat → Int32
  | _, 0 => -9
  | a, m + 1 => if cnsl (nI a - dm) ls = v then nI a else gts ls dm v (a + 1) m
theorem X5_gets_L {μ : Mem} {ls : List LT} {wm dm : Int32} (h : IsW μ 1 ls wm dm) (hk : okW ls) (v : Int32) : ∀ (m fuel a : Nat), a + m = 21 → m < fuel → fX5_gets_L27 v fuel (nI a) μ = some (gts ls dm v a m, μ)
  | 0, fuel + 1, a, ha, _ => by
    show sX5_gets_L27 (fX5_gets_L27 v fuel) v (nI a) μ = _
    unfold sX5_gets_L27
    rw [if_pos (show 20 < nI a from (lt_nI (a := 20) (by omega) (by omega)).mpr (by omega))]
    rfl
  | m + 1, fuel + 1, a, ha, hf => by
    show sX5_gets_L27 (fX5_gets_L27 v fuel) v (nI a) μ = _
    unfold sX5_gets_L27
    rw [if_neg (show ¬ 20 < nI a from fun z => absurd ((lt_nI (a := 20) (by omega) (by omega)).mp z) (by omega)), h.2.2.2.1, X4_counselBy h hk, bnd_s]
    unfold gts
    by_cases he : cnsl (nI a - dm) ls = v
    · rw [if_pos he, if_pos he]
    · rw [if_neg he, if_neg he, lti_e, nI_1]
      exact X5_gets_L h hk v m fuel (a + 1) (by omega) (by omega)
  | 0, 0, _, _, hf => absurd hf (by omega)
  | m + 1, 0, _, _, hf => absurd hf (by omega)
theorem X6_gets_L {μ : Mem} {ls : List LT} {wm dm : Int32} (h : IsM μ ls wm dm) (hok : okW ls) (ho : IsO μ (List.range ls.length)) (v : Int32) : ∀ (m fuel a : Nat), a + m = 21 → m < fuel → fX6_gets_L26 v fuel (nI a) μ = some (gts ls dm v a m, μ)
  | 0, fuel + 1, a, ha, _ => by
    show sX6_gets_L26 (fX6_gets_L26 v fuel) v (nI a) μ = _
    unfold sX6_gets_L26
    rw [if_pos (show 20 < nI a from (lt_nI (a := 20) (by omega) (by omega)).mpr (by omega))]
    rfl
  | m + 1, fuel + 1, a, ha, hf => by
    show sX6_gets_L26 (fX6_gets_L26 v fuel) v (nI a) μ = _
    unfold sX6_gets_L26
    rw [if_neg (show ¬ 20 < nI a from fun z => absurd ((lt_nI (a := 20) (by omega) (by omega)).mp z) (by omega)), h.2.2.2.1, X6_counselIdx h hok ho, bnd_s]
    unfold gts
    by_cases he : cnsl (nI a - dm) ls = v
    · rw [if_pos he, if_pos he]
    · rw [if_neg he, if_neg he, lti_e, nI_1]
      exact X6_gets_L h hok ho v m fuel (a + 1) (by omega) (by omega)
  | 0, 0, _, _, hf => absurd hf (by omega)
  | m + 1, 0, _, _, hf => absurd hf (by omega)
theorem op_gets (v : Int32) : St (fX5_gets v) (fX6_gets v) := by
  refine St.jk (fun μ ls wm dm rs hR => ?_)
  obtain ⟨⟨hW, hM, hk⟩, -⟩ := hR
  have h6 := hW.1
  unfold fX5_gets fX6_gets
  rw [isUpTo_eq, bnd_s, stands_eq hW]
  by_cases hz : zu v 9 = 0
  · refine ⟨-2, μ, μ, ?_, Jk.rf, ?_, Jk.rf⟩
    · rw [if_pos hz]
    · rw [isDigit_eq, bnd_s, if_pos hz]
  · by_cases h0 : 0 < ls.length
    · have n0 : ¬ nI ls.length = 0 := fun z => absurd ((zero_iff (by omega)).mp z) (by omega)
      obtain ⟨μ', e1, e2, e3⟩ := X6_orderAsIs hM
      refine ⟨gts ls dm v 0 21, μ, μ', ?_, Jk.rf, ?_, Jk.o39 e3⟩
      · simp only [if_neg hz, h0, decide_true, zo, if_true]
        rw [bnd_s, if_neg (by decide)]
        exact X5_gets_L hW hk v 21 FU 0 rfl (by decide)
      · rw [isDigit_eq, bnd_s, if_neg hz, hM.2.1, if_neg n0, e1, bnd_s]
        exact X6_gets_L (hM.o39 e3) hk e2 v 21 FU 0 rfl (by decide)
    · have n0 : nI ls.length = 0 := (zero_iff (by omega)).mpr (by omega)
      refine ⟨-3, μ, μ, ?_, Jk.rf, ?_, Jk.rf⟩
      · simp only [if_neg hz, h0, decide_false, zo]
        rfl
      · rw [isDigit_eq, bnd_s, if_neg hz, hM.2.1, if_pos n0]
