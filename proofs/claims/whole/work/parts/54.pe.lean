/-! PURE: the reference as it is now; its walls that are written -/
theorem X6_order_L {ls : List LT} {wm dm : Int32} : ∀ (fuel k : Nat) (μ : Mem), k ≤ ls.length → ls.length < k + fuel → IsM μ ls wm dm → (∀ j, j < k → μ 39 j = nI j) →
    ∃ μ', fX6_orderAsIs_L2 fuel (nI k) μ = some ((), μ') ∧ (∀ j, j < ls.length → μ' 39 j = nI j) ∧ ∀ i, i ≠ 39 → μ' i = μ i := by
  intro fuel
  induction fuel with
  | zero => intro k μ h1 h2; omega
  | succ fuel ih =>
    intro k μ h1 h2 hM hlo
    have hM' := hM
    obtain ⟨h6, hc, -⟩ := hM
    show ∃ μ', sX6_orderAsIs_L2 (fX6_orderAsIs_L2 fuel) (nI k) μ = some ((), μ') ∧ _
    unfold sX6_orderAsIs_L2
    rw [hc]
    by_cases hkl : ls.length ≤ k
    · rw [if_pos ((le_nI (by omega) (by omega)).mpr hkl)]
      exact ⟨μ, rfl, fun j hj => hlo j (by omega), fun _ _ => rfl⟩
    · rw [if_neg (fun z => hkl ((le_nI (by omega) (by omega)).mp z)), if_pos (inb_nI (by omega) (by omega)), cl_nI (by omega)]
      show ∃ μ', fX6_orderAsIs_L2 fuel (nI k + 1) (up2 μ 39 k (nI k)) = _ ∧ _
      rw [nI_1]
      have hM1 : IsM (up2 μ 39 k (nI k)) ls wm dm := by
        obtain ⟨a1, a2, a3, a4, a5⟩ := hM'
        refine ⟨a1, ?_, ?_, ?_, fun j hj => ?_⟩
        · rw [up2_n _ _ _ (by decide)]; exact a2
        · rw [up2_n _ _ _ (by decide)]; exact a3
        · rw [up2_n _ _ _ (by decide)]; exact a4
        · rw [up2_n _ _ _ (by decide), up2_n _ _ _ (by decide), up2_n _ _ _ (by decide)]; exact a5 j hj
      obtain ⟨μ', e1, e2, e3⟩ := ih (k + 1) (up2 μ 39 k (nI k)) (by omega) (by omega) hM1 (fun j hj => by
        by_cases hjk : j = k
        · subst hjk; rw [up2_ks]
        · rw [up2_kn _ _ hjk]; exact hlo j (by omega))
      exact ⟨μ', e1, e2, fun i hi => by rw [e3 i hi, up2_n _ _ _ hi]⟩
theorem X6_orderAsIs {μ : Mem} {ls : List LT} {wm dm : Int32} (h : IsM μ ls wm dm) : ∃ μ', fX6_orderAsIs μ = some ((), μ') ∧ IsO μ' (List.range ls.length) ∧ ∀ i, i ≠ 39 → μ' i = μ i := by
  have h6 := h.1
  obtain ⟨μ', e1, e2, e3⟩ := X6_order_L FU 0 μ (Nat.zero_le _) (by show _ < 0 + 1000; omega) h (fun j hj => by omega)
  refine ⟨μ', e1, fun q hq => ?_, e3⟩
  rw [List.length_range] at hq
  rw [e2 q hq, List.getD_eq_getElem?_getD, List.getElem?_range hq]
  rfl
theorem IsM.fr {μ μ' : Mem} {ls : List LT} {wm dm : Int32} (h : IsM μ ls wm dm) (h5 : μ' 31 5 = μ 31 5) (h6 : μ' 31 6 = μ 31 6) (h7 : μ' 31 7 = μ 31 7) (h35 : μ' 35 = μ 35) (h36 : μ' 36 = μ 36) (h37 : μ' 37 = μ 37) : IsM μ' ls wm dm := by
  obtain ⟨a1, a2, a3, a4, a5⟩ := h
  refine ⟨a1, by rw [h5]; exact a2, by rw [h6]; exact a3, by rw [h7]; exact a4, fun j hj => ?_⟩
  rw [h35, h36, h37]; exact a5 j hj
theorem IsM.o39 {μ μ' : Mem} {ls : List LT} {wm dm : Int32} (h : IsM μ ls wm dm) (hf : ∀ i, i ≠ 39 → μ' i = μ i) : IsM μ' ls wm dm :=
  h.fr (by rw [hf 31 (by decide)]) (by rw [hf 31 (by decide)]) (by rw [hf 31 (by decide)]) (hf 35 (by decide)) (hf 36 (by decide)) (hf 37 (by decide))
theorem range_nd (n : Nat) : (List.range n).Nodup := List.nodup_range
theorem tw_takeN {p : Nat → Bool} : ∀ (l : List Nat), l.take (l.takeWhile p).length = l.takeWhile p
  | [] => rfl
  | a :: r => by
    rw [List.takeWhile_cons]
    split
    · rw [List.length_cons, List.take_succ_cons, tw_takeN r]
    · rfl
theorem tw_range (p : LT → Bool) (ls : List LT) : (List.range ls.length).takeWhile (fun k => p (lyr ls k)) = List.range (ls.takeWhile p).length := by
  have e : ((List.range ls.length).takeWhile (fun k => p (lyr ls k))).map (lyr ls) = ls.takeWhile p := by
    have g : ∀ l : List Nat, (l.takeWhile (fun k => p (lyr ls k))).map (lyr ls) = (l.map (lyr ls)).takeWhile p := by
      intro l
      induction l with
      | nil => rfl
      | cons a r ih =>
        rw [List.takeWhile_cons, List.map_cons, List.takeWhile_cons]
        split
        · rw [List.map_cons, ih]
        · rfl
    rw [g, range_lyr]
  have hl : ((List.range ls.length).takeWhile (fun k => p (lyr ls k))).length = (ls.takeWhile p).length := by rw [← e, List.length_map]
  have h2 := tw_takeN (p := fun k => p (lyr ls k)) (List.range ls.length)
  rw [hl, List.take_range, Nat.min_eq_left (tw_len ls)] at h2
  exact h2.symm
theorem filt0 (l : List Nat) : l.filter (fun k => !(0 : Nat).testBit k) = l := List.filter_eq_self.mpr (fun k _ => by simp)
theorem bts_range : ∀ h : Fin 7, bts (List.range h.val) = 2 ^ h.val - 1 := by decide +kernel
theorem X6_heardIdx {μ : Mem} {ls : List LT} {wm dm : Int32} (h : IsM μ ls wm dm) (hk : okW ls) (ho : IsO μ (List.range ls.length)) (w1 w2 : Int32) : fX6_heardBy w1 w2 0 μ = some (nI (2 ^ (hrd (w1 - w2) ls).length - 1), μ) := by
  have h6 := h.1
  have hl := hrd_len (w1 - w2) ls
  obtain ⟨e1, -⟩ := X6_heardBy h hk ho List.length_range (fun k hk => List.mem_range.mp hk) (range_nd _) w1 w2 (out := 0) (by decide)
  unfold HL at e1
  rw [filt0, tw_range (pH (w1 - w2))] at e1
  have := bts_range ⟨(hrd (w1 - w2) ls).length, by omega⟩
  dsimp only at this
  unfold hrd at this ⊢
  rw [this] at e1
  exact e1
theorem X6_liftIdx {μ : Mem} {ls : List LT} {wm dm : Int32} (h : IsM μ ls wm dm) (hk : okW ls) (ho : IsO μ (List.range ls.length)) (w1 w2 : Int32) : fX6_liftedBy w1 w2 0 μ = some (nI (2 ^ (lft (w1 - w2) ls).length - 1), μ) := by
  have h6 := h.1
  have hl : (lft (w1 - w2) ls).length ≤ ls.length := tw_len ls
  have e1 := X6_liftedBy h hk ho List.length_range (fun k hk => List.mem_range.mp hk) w1 w2 (out := 0) (by decide)
  rw [lfR_bts, Nat.zero_or, filt0, tw_range (pL (w1 - w2))] at e1
  have := bts_range ⟨(lft (w1 - w2) ls).length, by omega⟩
  dsimp only at this
  unfold lft at this ⊢
  rw [this] at e1
  exact e1
theorem X6_counselIdx {μ : Mem} {ls : List LT} {wm dm : Int32} (h : IsM μ ls wm dm) (hk : okW ls) (ho : IsO μ (List.range ls.length)) (w1 w2 : Int32) : fX6_counselBy w1 w2 0 μ = some (cnsl (w1 - w2) ls, μ) := by
  have e := X6_counselBy h hk ho List.length_range (fun k hk => List.mem_range.mp hk) (range_nd _) w1 w2 (out := 0) (by decide)
  rw [seqL0, range_lyr] at e
  exact e
theorem X6_heardNow {μ : Mem} {ls : List LT} {wm dm : Int32} (h : IsM μ ls wm dm) (hk : okW ls) : ∃ μ', fX6_heardNow μ = some (nI (2 ^ (hrd (wm - dm) ls).length - 1), μ') ∧ ∀ i, i ≠ 39 → μ' i = μ i := by
  obtain ⟨μ', e1, e2, e3⟩ := X6_orderAsIs h
  have hM := h.o39 e3
  refine ⟨μ', ?_, e3⟩
  unfold fX6_heardNow
  rw [e1, bnd_s, hM.2.2.1, hM.2.2.2.1, X6_heardIdx hM hk e2, bnd_s]
theorem X6_liftedNow {μ : Mem} {ls : List LT} {wm dm : Int32} (h : IsM μ ls wm dm) (hk : okW ls) : ∃ μ', fX6_liftedNow μ = some (nI (2 ^ (lft (wm - dm) ls).length - 1), μ') ∧ ∀ i, i ≠ 39 → μ' i = μ i := by
  obtain ⟨μ', e1, e2, e3⟩ := X6_orderAsIs h
  have hM := h.o39 e3
  refine ⟨μ', ?_, e3⟩
  unfold fX6_liftedNow
  rw [e1, bnd_s, hM.2.2.1, hM.2.2.2.1, X6_liftIdx hM hk e2, bnd_s]
/-- nothing but these cells, and these fields of the reference's object, has changed -/
def Ex (C F : List Nat) (μ μ' : Mem) : Prop := (∀ i, i ≠ 31 → i ∉ C → μ' i = μ i) ∧ ∀ f, f ∉ F → μ' 31 f = μ 31 f
theorem Ex.rf {C F : List Nat} {μ : Mem} : Ex C F μ μ := ⟨fun _ _ _ => rfl, fun _ _ => rfl⟩
theorem Ex.tr {C F : List Nat} {μ μ1 μ2 : Mem} (h : Ex C F μ μ1) (h2 : Ex C F μ1 μ2) : Ex C F μ μ2 := ⟨fun i hi hc => (h2.1 i hi hc).trans (h.1 i hi hc), fun f hf => (h2.2 f hf).trans (h.2 f hf)⟩
theorem Ex.up {C F : List Nat} (μ : Mem) {i k : Nat} (v : Int32) (h : i ∈ C ∧ i ≠ 31 ∨ i = 31 ∧ k ∈ F) : Ex C F μ (up2 μ i k v) := by
  rcases h with ⟨h, h31⟩ | ⟨rfl, h⟩
  · exact ⟨fun a _ hc => up2_n _ _ _ (fun e => hc (e ▸ h)), fun f _ => by rw [up2_n _ _ _ (Ne.symm h31)]⟩
  · exact ⟨fun a ha _ => up2_n _ _ _ ha, fun f hf => up2_kn _ _ (fun e => hf (e ▸ h))⟩
theorem Ex.mono {C F C' F' : List Nat} {μ μ' : Mem} (h : Ex C F μ μ') (hc : ∀ i ∈ C, i ∈ C') (hf : ∀ f ∈ F, f ∈ F') : Ex C' F' μ μ' := ⟨fun i hi z => h.1 i hi (fun y => z (hc i y)), fun f z => h.2 f (fun y => z (hf f y))⟩
theorem tm_35 (μ : Mem) (j k : Nat) (t : LT) : tm (up2 (up2 (up2 μ 35 k t.1) 36 k t.2.1) 37 k t.2.2) j = if j = k then t else tm μ j := by
  unfold tm
  by_cases h : j = k
  · subst h; simp [up2_ap]
  · simp [up2_ap, h]
def mp3 (μ : Mem) (k : Nat) (t : LT) : Mem := up2 (up2 (up2 μ 35 k t.1) 36 k t.2.1) 37 k t.2.2
theorem mp3_tm (μ : Mem) (j k : Nat) (t : LT) : tm (mp3 μ k t) j = if j = k then t else tm μ j := tm_35 μ j k t
theorem mp3_ex (μ : Mem) (k : Nat) (t : LT) : Ex [35, 36, 37] [] μ (mp3 μ k t) := ((Ex.up μ _ (Or.inl ⟨by decide, by decide⟩)).tr (Ex.up _ _ (Or.inl ⟨by decide, by decide⟩))).tr (Ex.up _ _ (Or.inl ⟨by decide, by decide⟩))
theorem X6_putOn_L {t : LT} {ls : List LT} (h6 : ls.length < 6) : ∀ (fuel k : Nat) (μ : Mem), k < fuel → k ≤ ls.length → μ 31 5 = nI ls.length → (∀ j, j < ls.length → j ≤ k → tm μ j = lyr ls j) → (∀ j, k < j → j ≤ ls.length → tm μ j = lyr ls (j - 1)) →
    ∃ μ', fX6_putOn_L6 t.1 t.2.1 t.2.2 fuel (nI k) μ = some ((), μ') ∧ μ' 31 5 = nI (ls.length + 1) ∧ (∀ j, j ≤ ls.length → tm μ' j = lyr (t :: ls) j) ∧ Ex [35, 36, 37] [5] μ μ' := by
  intro fuel
  induction fuel with
  | zero => intro k μ h; omega
  | succ fuel ih =>
    intro k μ hf hk hc hlo hhi
    show ∃ μ', sX6_putOn_L6 (fX6_putOn_L6 t.1 t.2.1 t.2.2 fuel) t.1 t.2.1 t.2.2 (nI k) μ = some ((), μ') ∧ _
    unfold sX6_putOn_L6
    by_cases hk0 : k = 0
    · subst hk0
      have hi : inb (0 : Int32) 6 := by decide
      rw [if_pos (show nI 0 ≤ 0 from by decide), if_pos hi, ltm_e, if_pos hi, ltm_e, if_pos hi, ltm_e, ltm_e, show (0 : Int32).toNatClampNeg = 0 from by decide]
      have e := mp3_ex μ 0 t
      refine ⟨_, rfl, ?_, ?_, ?_⟩
      · rw [up2_ks]
        show mp3 μ 0 t 31 5 + 1 = _
        rw [e.2 5 (by decide), hc, nI_1]
      · intro j hj
        show tm (up2 (mp3 μ 0 t) 31 5 _) j = _
        have : tm (up2 (mp3 μ 0 t) 31 5 (mp3 μ 0 t 31 5 + 1)) j = tm (mp3 μ 0 t) j := by
          unfold tm
          rw [up2_n _ _ _ (by decide), up2_n _ _ _ (by decide), up2_n _ _ _ (by decide)]
        refine this.trans ?_
        rw [mp3_tm]
        cases j with
        | zero => rw [if_pos rfl]; rfl
        | succ j => rw [if_neg (by omega), hhi (j + 1) (by omega) hj]; rfl
      · exact (e.mono (fun _ h => h) (fun _ h => absurd h List.not_mem_nil)).tr (Ex.up _ _ (Or.inr ⟨rfl, by decide⟩))
    · have hi : inb (nI (k - 1)) 6 := inb_nI (by omega) (by omega)
      have hi2 : inb (nI k) 6 := inb_nI (by omega) (by omega)
      rw [if_neg (show ¬ nI k ≤ 0 from fun z => hk0 (by have := (le_nI (a := k) (b := 0) (by omega) (by omega)).mp z; omega)), sub1 (by omega), if_pos hi, if_pos hi2, ltm_e, if_pos hi, if_pos hi2, ltm_e, if_pos hi, if_pos hi2, ltm_e, lti_e, add_m1 (by omega), cl_nI (by omega), cl_nI (by omega)]
      have eq : up2 (up2 (up2 μ 35 k (μ 35 (k - 1))) 36 k (up2 μ 35 k (μ 35 (k - 1)) 36 (k - 1))) 37 k (up2 (up2 μ 35 k (μ 35 (k - 1))) 36 k (up2 μ 35 k (μ 35 (k - 1)) 36 (k - 1)) 37 (k - 1)) = mp3 μ k (tm μ (k - 1)) := by
        unfold mp3 tm
        simp [up2_ap]
      rw [eq]
      obtain ⟨μ', e1, e2, e3, e4⟩ := ih (k - 1) (mp3 μ k (tm μ (k - 1))) (by omega) (by omega) (by rw [(mp3_ex μ k _).2 5 (by decide)]; exact hc)
        (fun j h1 h2 => by rw [mp3_tm, if_neg (by omega)]; exact hlo j h1 (by omega))
        (fun j h1 h2 => by
          rw [mp3_tm]
          by_cases hjk : j = k
          · subst hjk
            rw [if_pos rfl]
            exact hlo (j - 1) (by omega) (by omega)
          · rw [if_neg hjk]
            exact hhi j (by omega) h2)
      exact ⟨μ', e1, e2, e3, ((mp3_ex μ k _).mono (fun _ h => h) (fun _ h => absurd h List.not_mem_nil)).tr e4⟩
theorem X6_putOn {μ : Mem} {ls : List LT} {wm dm : Int32} (h : IsM μ ls wm dm) (t : LT) (hl : ls.length < 6) : ∃ μ', fX6_putOn t.1 t.2.1 t.2.2 μ = some ((), μ') ∧ IsM μ' (t :: ls) wm dm ∧ Ex [35, 36, 37] [5] μ μ' := by
  obtain ⟨h6, hc, h2, h3, hj⟩ := h
  unfold fX6_putOn
  rw [hc, lti_e]
  obtain ⟨μ', e1, e2, e3, e4⟩ := X6_putOn_L (t := t) hl FU ls.length μ (by show _ < 1000; omega) (Nat.le_refl _) hc (fun j h1 _ => hj j h1) (fun j h1 h2 => by omega)
  refine ⟨μ', e1, ⟨by rw [List.length_cons]; omega, by rw [e2, List.length_cons], ?_, ?_, fun j h1 => e3 j (by rw [List.length_cons] at h1; omega)⟩, e4⟩
  · rw [e4.2 6 (by decide)]; exact h2
  · rw [e4.2 7 (by decide)]; exact h3
theorem X6_takeOff_L {ls : List LT} {a : Int32} (h6 : ls.length ≤ 6) (h1 : 1 ≤ ls.length) : ∀ (fuel k : Nat) (μ : Mem), ls.length < k + fuel + 1 → k ≤ ls.length - 1 → μ 31 5 = nI (ls.length - 1) → (∀ j, j < k → tm μ j = lyr ls (j + 1)) → (∀ j, k < j → j < ls.length → tm μ j = lyr ls j) →
    ∃ μ', fX6_takeOff_L19 a fuel (nI k) μ = some (a, μ') ∧ (∀ j, j + 1 < ls.length → tm μ' j = lyr ls (j + 1)) ∧ Ex [35, 36, 37] [] μ μ' := by
  intro fuel
  induction fuel with
  | zero => intro k μ h; omega
  | succ fuel ih =>
    intro k μ hf hk hc hlo hhi
    show ∃ μ', sX6_takeOff_L19 (fX6_takeOff_L19 a fuel) a (nI k) μ = some (a, μ') ∧ _
    unfold sX6_takeOff_L19
    rw [hc]
    by_cases hkl : ls.length - 1 ≤ k
    · rw [if_pos ((le_nI (by omega) (by omega)).mpr hkl)]
      exact ⟨μ, rfl, fun j hj => hlo j (by omega), Ex.rf⟩
    · have hi : inb (nI (k + 1)) 6 := inb_nI (by omega) (by omega)
      have hi2 : inb (nI k) 6 := inb_nI (by omega) (by omega)
      rw [if_neg (fun z => hkl ((le_nI (by omega) (by omega)).mp z)), nI_1, if_pos hi, if_pos hi2, ltm_e, if_pos hi, if_pos hi2, ltm_e, if_pos hi, if_pos hi2, ltm_e, lti_e, cl_nI (by omega), cl_nI (by omega)]
      have eq : up2 (up2 (up2 μ 35 k (μ 35 (k + 1))) 36 k (up2 μ 35 k (μ 35 (k + 1)) 36 (k + 1))) 37 k (up2 (up2 μ 35 k (μ 35 (k + 1))) 36 k (up2 μ 35 k (μ 35 (k + 1)) 36 (k + 1)) 37 (k + 1)) = mp3 μ k (tm μ (k + 1)) := by
        unfold mp3 tm
        simp [up2_ap]
      rw [eq]
      obtain ⟨μ', e1, e2, e3⟩ := ih (k + 1) (mp3 μ k (tm μ (k + 1))) (by omega) (by omega) (by rw [(mp3_ex μ k _).2 5 (by decide)]; exact hc)
        (fun j h1 => by
          rw [mp3_tm]
          by_cases hjk : j = k
          · subst hjk
            rw [if_pos rfl]
            exact hhi (j + 1) (by omega) (by omega)
          · rw [if_neg hjk]
            exact hlo j (by omega))
        (fun j h1 h2 => by rw [mp3_tm, if_neg (by omega)]; exact hhi j (by omega) h2)
      exact ⟨μ', e1, e2, (mp3_ex μ k _).tr e3⟩
theorem X6_takeOff {μ : Mem} {ls : List LT} {wm dm : Int32} (h : IsM μ ls wm dm) (hl : 1 ≤ ls.length) : ∃ μ', fX6_takeOff μ = some (adv (lyr ls 0), μ') ∧ IsM μ' ls.tail wm dm ∧ Ex [35, 36, 37] [5] μ μ' := by
  obtain ⟨h6, hc, h2, h3, hj⟩ := h
  unfold fX6_takeOff
  have q : μ 37 0 = adv (lyr ls 0) := congrArg (fun t => t.2.2) (hj 0 (by omega))
  rw [if_pos (show inb (0 : Int32) 6 from by decide), lti_e, ltm_e, show (0 : Int32).toNatClampNeg = 0 from by decide, hc, sub1 (by omega), q]
  have ex := Ex.up (C := [35, 36, 37]) (F := [5]) μ (i := 31) (k := 5) (nI (ls.length - 1)) (Or.inr ⟨rfl, by decide⟩)
  have htm : ∀ j, tm (up2 μ 31 5 (nI (ls.length - 1))) j = tm μ j := fun j => by
    unfold tm
    rw [up2_n _ _ _ (by decide), up2_n _ _ _ (by decide), up2_n _ _ _ (by decide)]
  obtain ⟨μ', e1, e2, e3⟩ := X6_takeOff_L (a := adv (lyr ls 0)) h6 hl FU 0 (up2 μ 31 5 (nI (ls.length - 1))) (by show _ < 0 + 1000 + 1; omega) (Nat.zero_le _) (up2_ks _ _ _ _) (fun j hj => by omega) (fun j _ h2 => by rw [htm]; exact hj j h2)
  have e4 := ex.tr (e3.mono (fun _ h => h) (fun _ h => absurd h List.not_mem_nil))
  refine ⟨μ', e1, ⟨by rw [List.length_tail]; omega, ?_, ?_, ?_, fun j h1 => ?_⟩, e4⟩
  · rw [e3.2 5 (by decide), up2_ks, List.length_tail]
  · rw [e4.2 6 (by decide)]; exact h2
  · rw [e4.2 7 (by decide)]; exact h3
  · rw [List.length_tail] at h1
    rw [lyr_tail]
    exact e2 j (by omega)
theorem bit0 : ∀ l : Fin 7, (((nI (2 ^ l.val - 1) >>> ((0 : Int32) &&& 31)) &&& 1) = 1) ↔ l.val ≠ 0 := by decide +kernel
theorem X6_mayPeel {μ : Mem} {ls : List LT} {wm dm : Int32} (h : IsM μ ls wm dm) (hk : okW ls) : ∃ μ', fX6_mayPeel μ = some (zo (decide (2 ≤ ls.length ∧ (lft (wm - dm) ls).length ≠ 0)), μ') ∧ ∀ i, i ≠ 39 → μ' i = μ i := by
  have h6 := h.1
  have hl : (lft (wm - dm) ls).length ≤ ls.length := tw_len ls
  unfold fX6_mayPeel
  rw [h.2.1]
  by_cases h2 : 2 ≤ ls.length
  · rw [if_neg (show ¬ nI ls.length ≤ 1 from fun z => absurd ((le_nI (b := 1) (by omega) (by omega)).mp z) (by omega))]
    obtain ⟨μ', e1, e2⟩ := X6_liftedNow h hk
    refine ⟨μ', ?_, e2⟩
    rw [e1, bnd_s]
    unfold fX6_isOf
    have hb := bit0 ⟨(lft (wm - dm) ls).length, by omega⟩
    dsimp only at hb
    by_cases hz : (lft (wm - dm) ls).length = 0
    · rw [if_neg (fun z => hb.mp z hz), bnd_s, if_pos rfl]
      simp [hz, zo]
    · rw [if_pos (hb.mpr hz), bnd_s, if_neg (by decide)]
      simp [hz, zo, h2]
  · rw [if_pos (show nI ls.length ≤ 1 from (le_nI (b := 1) (by omega) (by omega)).mpr (by omega))]
    exact ⟨μ, by simp [zo, h2], fun _ _ => rfl⟩
