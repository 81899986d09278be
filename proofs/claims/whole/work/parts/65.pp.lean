/-! PURE: days, the reference and the call -/
theorem X6_keep_L {ls : List LT} {wm dm : Int32} : ∀ (m fuel k : Nat) (μ : Mem), k + m = ls.length → m < fuel → IsM μ ls wm dm → (∀ j, j < k → (μ 40 (3 * j), μ 40 (3 * j + 1), μ 40 (3 * j + 2)) = lyr ls j) →
    ∃ μ', fX6_keep_L26 fuel (nI k) μ = some ((), μ') ∧ (∀ j, j < ls.length → (μ' 40 (3 * j), μ' 40 (3 * j + 1), μ' 40 (3 * j + 2)) = lyr ls j) ∧ ∀ i, i ≠ 40 → μ' i = μ i := by
  intro m
  induction m with
  | zero =>
    intro fuel k μ hk hf hM hj
    obtain ⟨fuel, rfl⟩ : ∃ f, fuel = f + 1 := ⟨fuel - 1, by omega⟩
    have h6 := hM.1
    refine ⟨μ, ?_, fun j h => hj j (by omega), fun _ _ => rfl⟩
    show sX6_keep_L26 (fX6_keep_L26 fuel) (nI k) μ = _
    unfold sX6_keep_L26
    rw [hM.2.1, if_pos ((le_nI (by omega) (by omega)).mpr (by omega))]
  | succ m ih =>
    intro fuel k μ hk hf hM hj
    obtain ⟨fuel, rfl⟩ : ∃ f, fuel = f + 1 := ⟨fuel - 1, by omega⟩
    have h6 := hM.1
    show ∃ μ', sX6_keep_L26 (fX6_keep_L26 fuel) (nI k) μ = _ ∧ _
    unfold sX6_keep_L26
    have i6 : inb (nI k) 6 := inb_nI (by omega) (by omega)
    rw [hM.2.1, if_neg (fun z => absurd ((le_nI (by omega) (by omega)).mp z) (by omega)), show (3 : Int32) * nI k = nI (3 * k) from pk_mul 3 k, show nI (3 * k) + (1 : Int32) = nI (3 * k + 1) from nI_add (3 * k) 1, show nI (3 * k) + (2 : Int32) = nI (3 * k + 2) from nI_add (3 * k) 2, if_pos i6, if_pos (inb_nI (by omega) (by omega)), ltm_e, if_pos i6, if_pos (inb_nI (by omega) (by omega)), ltm_e, if_pos i6, if_pos (inb_nI (by omega) (by omega)), ltm_e, lti_e, nI_1, cl_nI (by omega), cl_nI (by omega), cl_nI (by omega), cl_nI (by omega)]
    rw [show up2 μ 40 (3 * k) (μ 35 k) 36 = μ 36 from up2_n _ _ _ (by decide), show up2 (up2 μ 40 (3 * k) (μ 35 k)) 40 (3 * k + 1) (μ 36 k) 37 = μ 37 from (up2_n _ _ _ (by decide)).trans (up2_n _ _ _ (by decide))]
    have hm := hM.2.2.2.2 k (by omega)
    have fr : ∀ i, i ≠ 40 → up2 (up2 (up2 μ 40 (3 * k) (μ 35 k)) 40 (3 * k + 1) (μ 36 k)) 40 (3 * k + 2) (μ 37 k) i = μ i := fun i hi => by rw [up2_n _ _ _ hi, up2_n _ _ _ hi, up2_n _ _ _ hi]
    obtain ⟨μ', e1, e2, e3⟩ := ih fuel (k + 1) (up2 (up2 (up2 μ 40 (3 * k) (μ 35 k)) 40 (3 * k + 1) (μ 36 k)) 40 (3 * k + 2) (μ 37 k)) (by omega) (by omega)
      (hM.fr (by rw [fr 31 (by decide)]) (by rw [fr 31 (by decide)]) (by rw [fr 31 (by decide)]) (fr 35 (by decide)) (fr 36 (by decide)) (fr 37 (by decide))) (fun j h => by
        by_cases hjk : j = k
        · subst hjk
          rw [up2_ks, up2_kn _ _ (show 3 * j + 1 ≠ 3 * j + 2 by omega), up2_ks, up2_kn _ _ (show 3 * j ≠ 3 * j + 2 by omega), up2_kn _ _ (show 3 * j ≠ 3 * j + 1 by omega), up2_ks]
          exact hm
        · rw [← hj j (by omega)]
          have g : ∀ d, d < 3 → up2 (up2 (up2 μ 40 (3 * k) (μ 35 k)) 40 (3 * k + 1) (μ 36 k)) 40 (3 * k + 2) (μ 37 k) 40 (3 * j + d) = μ 40 (3 * j + d) := fun d hd => by
            rw [up2_kn _ _ (by omega), up2_kn _ _ (by omega), up2_kn _ _ (by omega)]
          rw [show (3 * j) = 3 * j + 0 from rfl, g 0 (by decide), g 1 (by decide), g 2 (by decide)])
    exact ⟨μ', e1, e2, fun i hi => (e3 i hi).trans (fr i hi)⟩
def Kp (μ : Mem) (ls : List LT) (wm dm : Int32) : Prop := μ 31 18 = nI ls.length ∧ μ 31 19 = wm ∧ μ 31 20 = dm ∧ ∀ j, j < ls.length → (μ 40 (3 * j), μ 40 (3 * j + 1), μ 40 (3 * j + 2)) = lyr ls j
theorem X6_keep {μ : Mem} {ls : List LT} {wm dm : Int32} (h : IsM μ ls wm dm) : ∃ μ', fX6_keep μ = some ((), μ') ∧ Kp μ' ls wm dm ∧ Ex [40] [18, 19, 20] μ μ' := by
  have m1 := h.c31 (b := 18) (by decide) (μ 31 5)
  have m2 := m1.c31 (b := 19) (by decide) (μ 31 6)
  have m3 := m2.c31 (b := 20) (by decide) (μ 31 7)
  have h6 := h.1
  obtain ⟨μ', e1, e2, e3⟩ := X6_keep_L ls.length FU 0 _ (by omega) (by show _ < 1000; omega) m3 (fun j hj => absurd hj (by omega))
  refine ⟨μ', ?_, ⟨?_, ?_, ?_, e2⟩, ?_⟩
  · unfold fX6_keep
    rw [ltm_e, ltm_e, up2_kn _ _ (show 6 ≠ 18 by decide), ltm_e, up2_kn _ _ (show 7 ≠ 19 by decide), up2_kn _ _ (show 7 ≠ 18 by decide)]
    exact e1
  · rw [e3 31 (by decide), up2_kn _ _ (by decide), up2_kn _ _ (by decide), up2_ks]; exact h.2.1
  · rw [e3 31 (by decide), up2_kn _ _ (by decide), up2_ks]; exact h.2.2.1
  · rw [e3 31 (by decide), up2_ks]; exact h.2.2.2.1
  · refine (((Ex.up μ _ (Or.inr ⟨rfl, by decide⟩)).tr (Ex.up _ _ (Or.inr ⟨rfl, by decide⟩))).tr (Ex.up _ _ (Or.inr ⟨rfl, by decide⟩))).tr ⟨fun i _ hc => e3 i (fun z => hc (by rw [z]; decide)), fun f _ => by rw [e3 31 (by decide)]⟩
theorem X6_put_L {ls : List LT} {wm dm : Int32} : ∀ (m fuel k : Nat) (μ : Mem), k + m = ls.length → ls.length ≤ 6 → m < fuel → Kp μ ls wm dm → μ 31 5 = nI ls.length → (∀ j, j < k → tm μ j = lyr ls j) →
    ∃ μ', fX6_putBack_L26 fuel (nI k) μ = some ((), μ') ∧ (∀ j, j < ls.length → tm μ' j = lyr ls j) ∧ Ex [35, 36, 37] [] μ μ' := by
  intro m
  induction m with
  | zero =>
    intro fuel k μ hk h6 hf hK h5 hj
    obtain ⟨fuel, rfl⟩ : ∃ f, fuel = f + 1 := ⟨fuel - 1, by omega⟩
    refine ⟨μ, ?_, fun j h => hj j (by omega), Ex.rf⟩
    show sX6_putBack_L26 (fX6_putBack_L26 fuel) (nI k) μ = _
    unfold sX6_putBack_L26
    rw [h5, if_pos ((le_nI (by omega) (by omega)).mpr (by omega))]
  | succ m ih =>
    intro fuel k μ hk h6 hf hK h5 hj
    obtain ⟨fuel, rfl⟩ : ∃ f, fuel = f + 1 := ⟨fuel - 1, by omega⟩
    show ∃ μ', sX6_putBack_L26 (fX6_putBack_L26 fuel) (nI k) μ = _ ∧ _
    unfold sX6_putBack_L26
    have i6 : inb (nI k) 6 := inb_nI (by omega) (by omega)
    rw [h5, if_neg (fun z => absurd ((le_nI (by omega) (by omega)).mp z) (by omega)), show (3 : Int32) * nI k = nI (3 * k) from pk_mul 3 k, show nI (3 * k) + (1 : Int32) = nI (3 * k + 1) from nI_add (3 * k) 1, show nI (3 * k) + (2 : Int32) = nI (3 * k + 2) from nI_add (3 * k) 2, if_pos (inb_nI (j := 3 * k) (by omega) (by omega)), if_pos i6, ltm_e, if_pos (inb_nI (j := 3 * k + 1) (by omega) (by omega)), if_pos i6, ltm_e, if_pos (inb_nI (j := 3 * k + 2) (by omega) (by omega)), if_pos i6, ltm_e, lti_e, nI_1, cl_nI (j := k) (by omega), cl_nI (j := 3 * k) (by omega), cl_nI (j := 3 * k + 1) (by omega), cl_nI (j := 3 * k + 2) (by omega)]
    have q := hK.2.2.2 k (by omega)
    have q0 : μ 40 (3 * k) = (lyr ls k).1 := congrArg Prod.fst q
    have q1 : μ 40 (3 * k + 1) = (lyr ls k).2.1 := congrArg (fun t => t.2.1) q
    have q2 : μ 40 (3 * k + 2) = (lyr ls k).2.2 := congrArg (fun t => t.2.2) q
    rw [q0, show up2 μ 35 k (lyr ls k).1 40 = μ 40 from up2_n _ _ _ (by decide), q1, show up2 (up2 μ 35 k (lyr ls k).1) 36 k (lyr ls k).2.1 40 = μ 40 from (up2_n _ _ _ (by decide)).trans (up2_n _ _ _ (by decide)), q2]
    have x := mp3_ex μ k (lyr ls k)
    obtain ⟨μ', e1, e2, e3⟩ := ih fuel (k + 1) (mp3 μ k (lyr ls k)) (by omega) h6 (by omega) ⟨(x.2 18 (by decide)).trans hK.1, (x.2 19 (by decide)).trans hK.2.1, (x.2 20 (by decide)).trans hK.2.2.1, fun j h => by rw [x.1 40 (by decide) (by decide)]; exact hK.2.2.2 j h⟩ ((x.2 5 (by decide)).trans h5) (fun j h => by
      rw [mp3_tm]
      by_cases hjk : j = k
      · rw [if_pos hjk, hjk]
      · rw [if_neg hjk]; exact hj j (by omega))
    exact ⟨μ', e1, e2, x.tr e3⟩
theorem X6_putBack {μ : Mem} {ls : List LT} {wm dm : Int32} (h : Kp μ ls wm dm) (h6 : ls.length ≤ 6) : ∃ μ', fX6_putBack μ = some ((), μ') ∧ IsM μ' ls wm dm ∧ Ex [35, 36, 37] [5, 6, 7] μ μ' := by
  have c : ∀ f, f ≠ 5 → f ≠ 6 → f ≠ 7 → up2 (up2 (up2 μ 31 5 (μ 31 18)) 31 6 (μ 31 19)) 31 7 (μ 31 20) 31 f = μ 31 f := fun f a b d => by rw [up2_kn _ _ d, up2_kn _ _ b, up2_kn _ _ a]
  have n : ∀ i, i ≠ 31 → up2 (up2 (up2 μ 31 5 (μ 31 18)) 31 6 (μ 31 19)) 31 7 (μ 31 20) i = μ i := fun i a => by rw [up2_n _ _ _ a, up2_n _ _ _ a, up2_n _ _ _ a]
  obtain ⟨μ', e1, e2, e3⟩ := X6_put_L (ls := ls) (wm := wm) (dm := dm) ls.length FU 0 (up2 (up2 (up2 μ 31 5 (μ 31 18)) 31 6 (μ 31 19)) 31 7 (μ 31 20)) (by omega) h6 (by show _ < 1000; omega)
    ⟨(c 18 (by decide) (by decide) (by decide)).trans h.1, (c 19 (by decide) (by decide) (by decide)).trans h.2.1, (c 20 (by decide) (by decide) (by decide)).trans h.2.2.1, fun j hj => by rw [n 40 (by decide)]; exact h.2.2.2 j hj⟩
    (by rw [up2_kn _ _ (by decide), up2_kn _ _ (by decide), up2_ks]; exact h.1) (fun j hj => absurd hj (by omega))
  refine ⟨μ', ?_, ⟨h6, ?_, ?_, ?_, e2⟩, ?_⟩
  · unfold fX6_putBack
    rw [ltm_e, ltm_e, up2_kn _ _ (show 19 ≠ 5 by decide), ltm_e, up2_kn _ _ (show 20 ≠ 6 by decide), up2_kn _ _ (show 20 ≠ 5 by decide)]
    exact e1
  · rw [e3.2 5 (by decide), up2_kn _ _ (by decide), up2_kn _ _ (by decide), up2_ks]; exact h.1
  · rw [e3.2 6 (by decide), up2_kn _ _ (by decide), up2_ks]; exact h.2.1
  · rw [e3.2 7 (by decide), up2_ks]; exact h.2.2.1
  · exact (((Ex.up μ _ (Or.inr ⟨rfl, by decide⟩)).tr (Ex.up _ _ (Or.inr ⟨rfl, by decide⟩))).tr (Ex.up _ _ (Or.inr ⟨rfl, by decide⟩))).tr (e3.mono (fun _ h => h) (fun _ h => absurd h List.not_mem_nil))
theorem hrd0 : ∀ h : Fin 7, nI (2 ^ h.val - 1) = 0 ↔ h.val = 0 := by decide +kernel
theorem X6_go_L {b n : Nat} {P : Nat → Int32 × Int32} (hb : b + 2 * n ≤ 240) (hA : ∀ q, q < n → okA (P q).1 (P q).2) {μ0 : Mem} (hP : ∀ q, q < n → (μ0 34 (b + 2 * q), μ0 34 (b + 2 * q + 1)) = P q) :
    ∀ (m fuel q c : Nat) (s : WS) (μ : Mem), q + m = n → m < fuel → okW s.1 → IsM μ s.1 s.2.1 s.2.2 → μ 31 21 = nI c → Ex [35, 36, 37, 39] [5, 6, 7, 21] μ0 μ →
    ∃ μ', fX6_goDays_L7 (nI b) (nI n) fuel (nI q) μ = some (match (goD P m q s c).1 with | some p => nI p | none => -9, μ') ∧ okW (goD P m q s c).2.1.1 ∧ IsM μ' (goD P m q s c).2.1.1 (goD P m q s c).2.1.2.1 (goD P m q s c).2.1.2.2 ∧ ((goD P m q s c).1 = none → μ' 31 21 = nI (goD P m q s c).2.2) ∧ Ex [35, 36, 37, 39] [5, 6, 7, 21] μ0 μ' := by
  intro m
  induction m with
  | zero =>
    intro fuel q c s μ hq hf hk hM h21 hX
    obtain ⟨fuel, rfl⟩ : ∃ f, fuel = f + 1 := ⟨fuel - 1, by omega⟩
    refine ⟨μ, ?_, hk, hM, fun _ => h21, hX⟩
    show sX6_goDays_L7 (fX6_goDays_L7 (nI b) (nI n) fuel) (nI b) (nI n) (nI q) μ = _
    unfold sX6_goDays_L7
    rw [if_pos ((le_nI (by omega) (by omega)).mpr (by omega))]
    rfl
  | succ m ih =>
    intro fuel q c s μ hq hf hk hM h21 hX
    obtain ⟨fuel, rfl⟩ : ∃ f, fuel = f + 1 := ⟨fuel - 1, by omega⟩
    have e34 : μ 34 = μ0 34 := hX.1 34 (by decide) (by decide)
    have c1 : μ 34 (b + 2 * q) = (P q).1 := by rw [e34]; exact congrArg Prod.fst (hP q (by omega))
    have c2 : μ 34 (b + 2 * q + 1) = (P q).2 := by rw [e34]; exact congrArg Prod.snd (hP q (by omega))
    have un : fX6_goDays_L7 (nI b) (nI n) (fuel + 1) (nI q) μ = bnd (fX6_does (P q).1 (P q).2 μ) (fun r_4 μ_2 => (if r_4 = 0 then some (nI q, μ_2) else bnd (fX6_heardNow μ_2) (fun r_7 μ_5 => (if r_7 = 0 then ltm (up2 μ_5 31 21 ((μ_2 31 21) + (0 : Int32))) (fun μ_10 => lti (nI q + 1) (fun y_11 => fX6_goDays_L7 (nI b) (nI n) fuel y_11 μ_10)) else ltm (up2 μ_5 31 21 ((μ_2 31 21) + (1 : Int32))) (fun μ_8 => lti (nI q + 1) (fun y_9 => fX6_goDays_L7 (nI b) (nI n) fuel y_9 μ_8)))))) := by
      show sX6_goDays_L7 (fX6_goDays_L7 (nI b) (nI n) fuel) (nI b) (nI n) (nI q) μ = _
      unfold sX6_goDays_L7
      rw [if_neg (fun z => absurd ((le_nI (by omega) (by omega)).mp z) (by omega)), show (2 : Int32) * nI q = nI (2 * q) from pk_mul 2 q, nI_add, show nI (b + 2 * q) + (1 : Int32) = nI (b + 2 * q + 1) from nI_add _ 1, if_pos (inb_nI (by omega) (by omega)), if_pos (inb_nI (by omega) (by omega)), cl_nI (by omega), cl_nI (by omega), c1, c2]
    rw [un]
    rcases X6_does (a := (P q).1) (v := (P q).2) hM hk (hA q (by omega)) with ⟨e0, μ1, e1, e2, e3⟩ | ⟨s', μ1, e0, e1, e2, e3⟩
    · have eg : goD P (m + 1) q s c = (some q, s, c) := by
        unfold goD
        rw [e0]
      rw [eg]
      refine ⟨μ1, ?_, hk, e2, fun z => absurd z (by simp), hX.tr (e3.mono (by decide) (by decide))⟩
      rw [e1, bnd_s, if_pos rfl]
    · have eg : goD P (m + 1) q s c = goD P m (q + 1) s' (if hdn s' = 0 then c else c + 1) := by
        conv => lhs; unfold goD
        rw [e0]
      rw [eg]
      have hk' := stp_ok hk (hA q (by omega)) e0
      obtain ⟨μ2, f1, f2⟩ := X6_heardNow e2 hk'
      have h6 := e2.1
      have hh := hrd_len (s'.2.1 - s'.2.2) s'.1
      have h21' : μ1 31 21 = nI c := (e3.2 21 (by decide)).trans h21
      have x2 : Ex [35, 36, 37, 39] [5, 6, 7, 21] μ0 μ2 := (hX.tr (e3.mono (by decide) (by decide))).tr ⟨fun i _ hc => f2 i (fun z => hc (by rw [z]; decide)), fun f _ => by rw [f2 31 (by decide)]⟩
      rw [e1, bnd_s, if_neg (by decide), f1, bnd_s, ltm_e, ltm_e, lti_e, lti_e, nI_1, h21']
      by_cases hz : hdn s' = 0
      · rw [if_pos ((hrd0 ⟨(hrd (s'.2.1 - s'.2.2) s'.1).length, by omega⟩).mpr hz), if_pos hz, show nI c + (0 : Int32) = nI c from nI_add c 0]
        exact ih fuel (q + 1) c s' _ (by omega) (by omega) hk' ((e2.o39 f2).c31 (b := 21) (by decide) _) (up2_ks _ _ _ _) (x2.tr (Ex.up _ _ (Or.inr ⟨rfl, by decide⟩)))
      · rw [if_neg (fun z => hz ((hrd0 ⟨(hrd (s'.2.1 - s'.2.2) s'.1).length, by omega⟩).mp z)), if_neg hz, show nI c + (1 : Int32) = nI (c + 1) from nI_add c 1]
        exact ih fuel (q + 1) (c + 1) s' _ (by omega) (by omega) hk' ((e2.o39 f2).c31 (b := 21) (by decide) _) (up2_ks _ _ _ _) (x2.tr (Ex.up _ _ (Or.inr ⟨rfl, by decide⟩)))
theorem X6_tellDays {μ : Mem} {s : WS} {w : Nat} (hw : w ≤ 4) (h : IsM μ s.1 s.2.1 s.2.2) (hk : okW s.1) : ∃ r μ', fX6_tellDays (nI w) μ = some (r, μ') ∧ (∀ c, μ 31 21 = nI c → r = tlF w s c) ∧ ∀ i, i ≠ 39 → μ' i = μ i := by
  unfold fX6_tellDays
  match w, hw with
  | 0, _ => exact ⟨nI s.1.length, μ, by rw [if_neg (by decide), if_pos (show nI 0 = 0 from rfl), h.2.1], fun c _ => rfl, fun _ _ => rfl⟩
  | 1, _ => exact ⟨μ 31 21, μ, by rw [if_neg (by decide), if_neg (by decide), if_neg (by decide)], fun c e => e, fun _ _ => rfl⟩
  | 2, _ =>
    obtain ⟨μ1, e1, e2, e3⟩ := X6_orderAsIs h
    have hM1 := h.o39 e3
    exact ⟨cnsl (s.2.1 - s.2.2) s.1, μ1, by rw [if_pos (show nI 2 = 2 from rfl), e1, bnd_s, hM1.2.2.1, hM1.2.2.2.1, X6_counselIdx hM1 hk e2, bnd_s], fun c _ => rfl, e3⟩
  | 3, _ =>
    obtain ⟨μ1, e1, e2⟩ := X6_heardNow h hk
    exact ⟨nI (2 ^ hdn s - 1), μ1, by rw [if_neg (by decide), if_neg (by decide), if_pos (show nI 3 = 3 from rfl), e1, bnd_s]; rfl, fun c _ => rfl, e2⟩
  | 4, _ => exact ⟨μ 31 21, μ, by rw [if_neg (by decide), if_neg (by decide), if_neg (by decide)], fun c e => e, fun _ _ => rfl⟩
theorem X6_days_L {b n w : Nat} {P : Nat → Int32 × Int32} {ls : List LT} {wm dm : Int32} {μ : Mem} (hb : b + 2 * n ≤ 240) (hw : w ≤ 4) (hn : n ≤ 20) (hM : IsM μ ls wm dm) (hk : okW ls) (hP : ∀ q, q < n → (μ 34 (b + 2 * q), μ 34 (b + 2 * q + 1)) = P q) (hA : ∀ q, q < n → ¬ iaF (P q).1 (P q).2 = 0) :
    ∀ (m fuel q : Nat), q + m = n → m < fuel → ∃ μ', fX6_days_L91 (nI n) (nI w) (nI b) fuel (nI q) μ = some (dyF w (goD P n 0 (ls, wm, dm) 0), μ') ∧ IsM μ' ls wm dm ∧ Ex [35, 36, 37, 39, 40] [5, 6, 7, 18, 19, 20, 21] μ μ' := by
  intro m
  induction m with
  | zero =>
    intro fuel q hq hf
    obtain ⟨fuel, rfl⟩ : ∃ f, fuel = f + 1 := ⟨fuel - 1, by omega⟩
    obtain ⟨μ1, a1, a2, a3⟩ := X6_keep hM
    have hM1 : IsM μ1 ls wm dm := hM.fr (a3.2 5 (by decide)) (a3.2 6 (by decide)) (a3.2 7 (by decide)) (a3.1 35 (by decide) (by decide)) (a3.1 36 (by decide) (by decide)) (a3.1 37 (by decide) (by decide))
    have e34 : μ1 34 = μ 34 := a3.1 34 (by decide) (by decide)
    obtain ⟨μ2, b1, b2, b3, b4, b5⟩ := X6_go_L (P := P) hb (fun q hq => iaF_ok (hA q hq)) (μ0 := up2 μ1 31 21 0) (fun q hq => by rw [up2_n _ _ _ (by decide), e34]; exact hP q hq) n FU 0 0 (ls, wm, dm) (up2 μ1 31 21 0) (by omega) (by show _ < 1000; omega) hk (hM1.c31 (by decide) _) (up2_ks _ _ _ _) Ex.rf
    obtain ⟨r, μ3, c1, c2, c3⟩ := X6_tellDays hw b3 b2
    have hK3 : Kp μ3 ls wm dm := by
      refine ⟨?_, ?_, ?_, fun j hj => ?_⟩
      · rw [c3 31 (by decide), b5.2 18 (by decide), up2_kn _ _ (by decide)]; exact a2.1
      · rw [c3 31 (by decide), b5.2 19 (by decide), up2_kn _ _ (by decide)]; exact a2.2.1
      · rw [c3 31 (by decide), b5.2 20 (by decide), up2_kn _ _ (by decide)]; exact a2.2.2.1
      · rw [c3 40 (by decide), b5.1 40 (by decide) (by decide), up2_n _ _ _ (by decide)]; exact a2.2.2.2 j hj
    obtain ⟨μ4, d1, d2, d3⟩ := X6_putBack hK3 hM.1
    refine ⟨μ4, ?_, d2, (((a3.mono (by decide) (by decide)).tr (Ex.up _ _ (Or.inr ⟨rfl, by decide⟩))).tr (b5.mono (by decide) (by decide))).tr (Ex.tr ⟨fun i _ hc => c3 i (fun z => hc (by rw [z]; decide)), fun f _ => by rw [c3 31 (by decide)]⟩ (d3.mono (by decide) (by decide)))⟩
    show sX6_days_L91 (fX6_days_L91 (nI n) (nI w) (nI b) fuel) (nI n) (nI w) (nI b) (nI q) μ = _
    unfold sX6_days_L91 fX6_goDays
    rw [if_pos ((le_nI (by omega) (by omega)).mpr (by omega)), a1, bnd_s, ltm_e]
    rw [show (0 : Int32) = nI 0 from rfl] at b1 ⊢
    rw [b1, bnd_s, c1, bnd_s, d1, bnd_s]
    unfold dyF
    cases hg : (goD P n 0 (ls, wm, dm) 0).1 with
    | some p =>
      have hp : p < n := by
        have : ∀ (m q : Nat) (s : WS) (c : Nat), ∀ p, (goD P m q s c).1 = some p → p < q + m := by
          intro m
          induction m with
          | zero => intro q s c p h; exact absurd h (by simp [goD])
          | succ m ih =>
            intro q s c p h
            unfold goD at h
            cases e : stp s (P q).1 (P q).2 with
            | none =>
              rw [e] at h
              have : q = p := by simpa using h
              omega
            | some s' =>
              rw [e] at h
              have := ih _ _ _ _ h
              omega
        have := this _ _ _ _ _ hg
        omega
      dsimp only
      by_cases h1 : w = 1
      · rw [if_pos h1, h1, if_pos (show nI 1 = 1 from rfl)]
      · rw [if_neg h1, if_neg (show ¬ nI w = 1 from fun z => h1 ((nI_eq (b := 1) (by omega) (by omega)).mp z)), if_neg (enO_ne (by omega))]
    | none =>
      dsimp only
      by_cases h1 : w = 1
      · rw [if_pos h1, h1, if_pos (show nI 1 = 1 from rfl)]
      · rw [if_neg h1, if_neg (show ¬ nI w = 1 from fun z => h1 ((nI_eq (b := 1) (by omega) (by omega)).mp z)), if_pos rfl, c2 _ (b4 hg)]
  | succ m ih =>
    intro fuel q hq hf
    obtain ⟨fuel, rfl⟩ : ∃ f, fuel = f + 1 := ⟨fuel - 1, by omega⟩
    have c1 : μ 34 (b + 2 * q) = (P q).1 := congrArg Prod.fst (hP q (by omega))
    have c2 : μ 34 (b + 2 * q + 1) = (P q).2 := congrArg Prod.snd (hP q (by omega))
    obtain ⟨μ', e1, e2⟩ := ih fuel (q + 1) (by omega) (by omega)
    refine ⟨μ', ?_, e2⟩
    show sX6_days_L91 (fX6_days_L91 (nI n) (nI w) (nI b) fuel) (nI n) (nI w) (nI b) (nI q) μ = _
    unfold sX6_days_L91
    rw [if_neg (fun z => absurd ((le_nI (by omega) (by omega)).mp z) (by omega)), show (2 : Int32) * nI q = nI (2 * q) from pk_mul 2 q, nI_add, show nI (b + 2 * q) + (1 : Int32) = nI (b + 2 * q + 1) from nI_add _ 1, if_pos (inb_nI (by omega) (by omega)), if_pos (inb_nI (by omega) (by omega)), cl_nI (by omega), cl_nI (by omega), c1, c2, isPair_eq, bnd_s, if_neg (hA q (by omega)), lti_e, nI_1]
    exact e1
theorem X6_daysNo_L {b n w : Nat} {P : Nat → Int32 × Int32} {μ : Mem} (hb : b + 2 * n ≤ 240) (hn : n ≤ 20) (hP : ∀ q, q < n → (μ 34 (b + 2 * q), μ 34 (b + 2 * q + 1)) = P q) :
    ∀ (m fuel q : Nat), q + m = n → m < fuel → (List.range' q m).all (fun q => !decide (iaF (P q).1 (P q).2 = 0)) = false → fX6_days_L91 (nI n) (nI w) (nI b) fuel (nI q) μ = some (-2, μ) := by
  intro m
  induction m with
  | zero => intro fuel q hq hf h; exact absurd h (by simp)
  | succ m ih =>
    intro fuel q hq hf h
    obtain ⟨fuel, rfl⟩ : ∃ f, fuel = f + 1 := ⟨fuel - 1, by omega⟩
    have c1 : μ 34 (b + 2 * q) = (P q).1 := congrArg Prod.fst (hP q (by omega))
    have c2 : μ 34 (b + 2 * q + 1) = (P q).2 := congrArg Prod.snd (hP q (by omega))
    show sX6_days_L91 (fX6_days_L91 (nI n) (nI w) (nI b) fuel) (nI n) (nI w) (nI b) (nI q) μ = _
    unfold sX6_days_L91
    rw [if_neg (fun z => absurd ((le_nI (by omega) (by omega)).mp z) (by omega)), show (2 : Int32) * nI q = nI (2 * q) from pk_mul 2 q, nI_add, show nI (b + 2 * q) + (1 : Int32) = nI (b + 2 * q + 1) from nI_add _ 1, if_pos (inb_nI (by omega) (by omega)), if_pos (inb_nI (by omega) (by omega)), cl_nI (by omega), cl_nI (by omega), c1, c2, isPair_eq, bnd_s, lti_e, nI_1]
    rw [List.range'_succ, List.all_cons] at h
    by_cases hz : iaF (P q).1 (P q).2 = 0
    · rw [if_pos hz]
    · rw [if_neg hz]
      rw [decide_eq_false hz] at h
      exact ih fuel (q + 1) (by omega) (by omega) (by simpa using h)
