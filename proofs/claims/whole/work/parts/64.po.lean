/-! PURE: days, the steps -/
theorem zu_4 (x : Int32) : zu x 4 = 0 ∨ zu x 4 = 1 ∧ ∃ j, j ≤ 4 ∧ x = nI j := zu_cs x 4 (by decide)
def iaF (a v : Int32) : Int32 := if a = 0 then zu v 20 else if a = 1 then zu v 9 else if a = 2 then (if v = 0 then 1 else 0) else if a = 3 then zu v 9 else 0
theorem isAct_eq (a v : Int32) (μ : Mem) : fX5_isAct a v μ = some (iaF a v, μ) := by
  unfold fX5_isAct iaF
  rw [isUpTo_eq, isUpTo_eq, bnd_s, bnd_s, if_pos (zu_b _ _), if_pos (zu_b _ _)]
  by_cases h0 : a = 0
  · rw [if_pos h0, if_pos h0]
  · rw [if_neg h0, if_neg h0]
    by_cases h1 : a = 1
    · rw [if_pos h1, if_pos h1]
    · rw [if_neg h1, if_neg h1]
      by_cases h2 : a = 2
      · rw [if_pos h2, if_pos h2]
        by_cases hv : v = 0
        · rw [if_pos hv, if_pos hv]
        · rw [if_neg hv, if_neg hv]
      · rw [if_neg h2, if_neg h2]
        by_cases h3 : a = 3
        · rw [if_pos h3, if_pos h3]
        · rw [if_neg h3, if_neg h3]
theorem isPair_eq (a v : Int32) (μ : Mem) : fX6_isPair a v μ = some (iaF a v, μ) := by
  unfold fX6_isPair iaF
  rw [within_eq, isDigit_eq, bnd_s, bnd_s, if_pos (zu_b _ _), if_pos (zu_b _ _)]
  by_cases h0 : a = 0
  · rw [if_pos h0, if_pos h0]
  · rw [if_neg h0, if_neg h0]
    by_cases h1 : a = 1
    · rw [if_pos h1, if_pos h1]
    · rw [if_neg h1, if_neg h1]
      by_cases h2 : a = 2
      · rw [if_pos h2, if_pos h2]
        by_cases hv : v = 0
        · rw [if_pos hv, if_pos hv]
        · rw [if_neg hv, if_neg hv]
      · rw [if_neg h2, if_neg h2]
        by_cases h3 : a = 3
        · rw [if_pos h3, if_pos h3]
        · rw [if_neg h3, if_neg h3]
def okA (a v : Int32) : Prop := a = 0 ∨ a = 1 ∨ a = 2 ∨ a = 3 ∧ okD v
theorem iaF_ok {a v : Int32} (h : ¬ iaF a v = 0) : okA a v := by
  unfold iaF at h
  by_cases h0 : a = 0
  · exact Or.inl h0
  · rw [if_neg h0] at h
    by_cases h1 : a = 1
    · exact Or.inr (Or.inl h1)
    · rw [if_neg h1] at h
      by_cases h2 : a = 2
      · exact Or.inr (Or.inr (Or.inl h2))
      · rw [if_neg h2] at h
        by_cases h3 : a = 3
        · rw [if_pos h3] at h
          rcases zu_9 v with z | ⟨-, j, hj, rfl⟩
          · exact absurd z h
          · exact Or.inr (Or.inr (Or.inr ⟨h3, j, hj, rfl⟩))
        · rw [if_neg h3] at h
          exact absurd rfl h
abbrev WS : Type := List LT × Int32 × Int32
def stp (s : WS) (a v : Int32) : Option WS := if a = 0 then some (s.1, v, s.2.2) else if a = 1 then some (s.1, s.2.1, v) else if a = 2 then (if 2 ≤ s.1.length ∧ (lft (s.2.1 - s.2.2) s.1).length ≠ 0 then some (s.1.tail, s.2.1, s.2.2) else none) else (if s.1.length = 6 then none else some ((0, v, v) :: s.1, s.2.1, s.2.2))
def hdn (s : WS) : Nat := (hrd (s.2.1 - s.2.2) s.1).length
def goD (P : Nat → Int32 × Int32) : Nat → Nat → WS → Nat → Option Nat × WS × Nat
  | 0, _, s, c => (none, s, c)
  | m + 1, q, s, c => match stp s (P q).1 (P q).2 with
    | none => (some q, s, c)
    | some s' => goD P m (q + 1) s' (if hdn s' = 0 then c else c + 1)
theorem stp_0 (s : WS) (v : Int32) : stp s 0 v = some (s.1, v, s.2.2) := if_pos rfl
theorem stp_1 (s : WS) (v : Int32) : stp s 1 v = some (s.1, s.2.1, v) := (if_neg (by decide)).trans (if_pos rfl)
theorem stp_2 (s : WS) (v : Int32) : stp s 2 v = if 2 ≤ s.1.length ∧ (lft (s.2.1 - s.2.2) s.1).length ≠ 0 then some (s.1.tail, s.2.1, s.2.2) else none := ((if_neg (by decide)).trans (if_neg (by decide))).trans (if_pos rfl)
theorem stp_3 (s : WS) (v : Int32) : stp s 3 v = if s.1.length = 6 then none else some ((0, v, v) :: s.1, s.2.1, s.2.2) := ((if_neg (by decide)).trans (if_neg (by decide))).trans (if_neg (by decide))
theorem stp_ok {s s' : WS} {a v : Int32} (hk : okW s.1) (ha : okA a v) (e : stp s a v = some s') : okW s'.1 := by
  rcases ha with rfl | rfl | rfl | ⟨rfl, hd⟩
  · rw [stp_0] at e; cases e; exact hk
  · rw [stp_1] at e; cases e; exact hk
  · rw [stp_2] at e
    split at e
    · cases e; exact okW_tail hk
    · cases e
  · rw [stp_3] at e
    split at e
    · cases e
    · cases e; exact okW_cons hk ⟨Or.inl rfl, hd, hd⟩
theorem IsW.warm {μ : Mem} {w : Nat} {ls : List LT} {wm dm : Int32} (h : IsW μ w ls wm dm) (v : Int32) : IsW (up2 μ w 2 v) w ls v dm :=
  ⟨h.1, (up2_kn _ _ (by decide)).trans h.2.1, up2_ks _ _ _ _, (up2_kn _ _ (by decide)).trans h.2.2.2.1, fun j hj => (tx_w μ w 2 j v).trans (h.2.2.2.2 j hj)⟩
theorem IsW.damp {μ : Mem} {w : Nat} {ls : List LT} {wm dm : Int32} (h : IsW μ w ls wm dm) (v : Int32) : IsW (up2 μ w 3 v) w ls wm v :=
  ⟨h.1, (up2_kn _ _ (by decide)).trans h.2.1, (up2_kn _ _ (by decide)).trans h.2.2.1, up2_ks _ _ _ _, fun j hj => (tx_w μ w 3 j v).trans (h.2.2.2.2 j hj)⟩
theorem IsM.warm {μ : Mem} {ls : List LT} {wm dm : Int32} (h : IsM μ ls wm dm) (v : Int32) : IsM (up2 μ 31 6 v) ls v dm :=
  ⟨h.1, (up2_kn _ _ (by decide)).trans h.2.1, up2_ks _ _ _ _, (up2_kn _ _ (by decide)).trans h.2.2.2.1, fun j hj => by
    rw [up2_n _ _ _ (by decide), up2_n _ _ _ (by decide), up2_n _ _ _ (by decide)]; exact h.2.2.2.2 j hj⟩
theorem IsM.damp {μ : Mem} {ls : List LT} {wm dm : Int32} (h : IsM μ ls wm dm) (v : Int32) : IsM (up2 μ 31 7 v) ls wm v :=
  ⟨h.1, (up2_kn _ _ (by decide)).trans h.2.1, (up2_kn _ _ (by decide)).trans h.2.2.1, up2_ks _ _ _ _, fun j hj => by
    rw [up2_n _ _ _ (by decide), up2_n _ _ _ (by decide), up2_n _ _ _ (by decide)]; exact h.2.2.2.2 j hj⟩
theorem X4_doAct {μ : Mem} {s : WS} {a v : Int32} (h : IsW μ 9 s.1 s.2.1 s.2.2) (ha : okA a v) : (stp s a v = none ∧ fX4_doAct 9 a v μ = some (0, μ)) ∨ ∃ s' μ', stp s a v = some s' ∧ fX4_doAct 9 a v μ = some (1, μ') ∧ IsW μ' 9 s'.1 s'.2.1 s'.2.2 ∧ FrW μ μ' 9 := by
  have b0 : isb (0 : Int32) := by decide
  have b1 : isb (1 : Int32) := by decide
  unfold fX4_doAct
  rcases ha with rfl | rfl | rfl | ⟨rfl, hd⟩
  · refine Or.inr ⟨_, up2 μ 9 2 v, stp_0 s v, ?_, h.warm v, FrW.w _ _ _ _⟩
    rw [if_pos rfl, ltm_e]
  · refine Or.inr ⟨_, up2 μ 9 3 v, stp_1 s v, ?_, h.damp v, FrW.w _ _ _ _⟩
    rw [if_neg (by decide), if_pos rfl, ltm_e]
  · rw [if_neg (by decide), if_neg (by decide), if_pos rfl, stp_2]
    by_cases hy : 2 ≤ s.1.length ∧ (lft (s.2.1 - s.2.2) s.1).length ≠ 0
    · obtain ⟨μ1, e1, e2, e3⟩ := X4_peelYes h hy.1 hy.2
      exact Or.inr ⟨_, μ1, if_pos hy, by rw [e1, bnd_s, if_pos b1], e2, e3⟩
    · exact Or.inl ⟨if_neg hy, by rw [X4_peelNo h (by omega), bnd_s, if_pos b0]⟩
  · rw [if_neg (by decide), if_neg (by decide), if_neg (by decide), stp_3]
    by_cases hy : s.1.length = 6
    · exact Or.inl ⟨if_pos hy, by rw [X4_layFull h _ _ _ hy, bnd_s, if_pos b0]⟩
    · obtain ⟨μ1, e1, e2, e3⟩ := X4_layOnTop h (0, v, v) (by have := h.1; omega)
      exact Or.inr ⟨_, μ1, if_neg hy, by rw [e1, bnd_s, if_pos b1], e2, e3⟩
theorem X6_does {μ : Mem} {s : WS} {a v : Int32} (h : IsM μ s.1 s.2.1 s.2.2) (hk : okW s.1) (ha : okA a v) : (stp s a v = none ∧ ∃ μ', fX6_does a v μ = some (0, μ') ∧ IsM μ' s.1 s.2.1 s.2.2 ∧ Ex [35, 36, 37, 39] [5, 6, 7] μ μ') ∨ ∃ s' μ', stp s a v = some s' ∧ fX6_does a v μ = some (1, μ') ∧ IsM μ' s'.1 s'.2.1 s'.2.2 ∧ Ex [35, 36, 37, 39] [5, 6, 7] μ μ' := by
  unfold fX6_does
  rcases ha with rfl | rfl | rfl | ⟨rfl, hd⟩
  · refine Or.inr ⟨_, up2 μ 31 6 v, stp_0 s v, ?_, h.warm v, Ex.up _ _ (Or.inr ⟨rfl, by decide⟩)⟩
    rw [if_pos rfl, ltm_e, if_neg (by decide), if_neg (by decide), if_neg (by decide), if_neg (by decide), if_neg (by decide)]
  · refine Or.inr ⟨_, up2 μ 31 7 v, stp_1 s v, ?_, h.damp v, Ex.up _ _ (Or.inr ⟨rfl, by decide⟩)⟩
    rw [if_neg (by decide), if_pos rfl, ltm_e, if_neg (by decide), if_neg (by decide), if_neg (by decide), if_neg (by decide)]
  · rw [if_neg (by decide), if_neg (by decide), if_pos rfl, stp_2]
    obtain ⟨μm, m1, m2⟩ := X6_mayPeel h hk
    have x39 : Ex [35, 36, 37, 39] [5, 6, 7] μ μm := ⟨fun i _ hc => m2 i (fun z => hc (by rw [z]; decide)), fun f _ => by rw [m2 31 (by decide)]⟩
    by_cases hy : 2 ≤ s.1.length ∧ (lft (s.2.1 - s.2.2) s.1).length ≠ 0
    · obtain ⟨μ2, f1, f2, f3⟩ := X6_takeOff (h.o39 m2) (by omega)
      refine Or.inr ⟨_, μ2, if_pos hy, ?_, f2, x39.tr (f3.mono (by decide) (by decide))⟩
      rw [m1, decide_eq_true hy, bnd_s, if_neg (show ¬ zo true = 0 from by decide), if_neg (by decide), if_pos rfl, f1, bnd_s, if_neg (by decide)]
    · refine Or.inl ⟨if_neg hy, μm, ?_, h.o39 m2, x39⟩
      rw [m1, decide_eq_false hy, bnd_s, if_pos (show zo false = 0 from rfl)]
  · rw [if_neg (by decide), if_neg (by decide), if_neg (by decide), if_pos rfl, stp_3, h.2.1]
    by_cases hy : s.1.length = 6
    · refine Or.inl ⟨if_pos hy, μ, ?_, h, Ex.rf⟩
      rw [hy, if_pos (show nI 6 = 6 from rfl)]
    · obtain ⟨μ2, f1, f2, f3⟩ := X6_putOn h (0, v, v) (by have := h.1; omega)
      refine Or.inr ⟨_, μ2, if_neg hy, ?_, f2, f3.mono (by decide) (by decide)⟩
      rw [if_neg (show ¬ nI s.1.length = 6 from fun z => hy ((nI_eq (b := 6) (by have := h.1; omega) (by omega)).mp z)), if_neg (by decide), if_pos rfl, f1, bnd_s]
def tlF (w : Nat) (s : WS) (c : Nat) : Int32 := if w = 2 then cnsl (s.2.1 - s.2.2) s.1 else if w = 0 then nI s.1.length else if w = 3 then nI (2 ^ hdn s - 1) else nI c
def dyF (w : Nat) (r : Option Nat × WS × Nat) : Int32 := match r.1 with
  | some p => if w = 1 then nI p else -100 - nI p
  | none => if w = 1 then -9 else tlF w r.2.1 r.2.2
theorem warmth_eq {μ : Mem} {w : Nat} {ls : List LT} {wm dm : Int32} (h : IsW μ w ls wm dm) : fX4_warmth w μ = some (wm - dm, μ) := by
  unfold fX4_warmth
  rw [h.2.2.1, h.2.2.2.1]
theorem getCell_eq {μ : Mem} {t len j : Nat} (h3 : μ t 3 = nI len) (hl : len ≤ 60) (hj : j < len) : fX3_getCell t (nI j) μ = some (μ (t + 4) j, μ) := by
  unfold fX3_getCell
  rw [if_neg (nI_pos (by omega)), h3, if_neg (fun z => absurd ((le_nI (by omega) (by omega)).mp z) (by omega)), if_pos (inb_nI (by omega) (by omega)), cl_nI (by omega)]
theorem X5_areActs_L {μ : Mem} {t len i n : Nat} {P : Nat → Int32 × Int32} (h3 : μ t 3 = nI len) (hl : len ≤ 60) (hin : i + 2 * n ≤ len) (hP : ∀ q, q < n → (μ (t + 4) (i + 2 * q), μ (t + 4) (i + 2 * q + 1)) = P q) :
    ∀ (m fuel q : Nat), q + m = n → m < fuel → fX5_areActs_L2 t (nI i) (nI n) fuel (nI q) μ = some (zo ((List.range' q m).all (fun q => !decide (iaF (P q).1 (P q).2 = 0))), μ) := by
  intro m
  induction m with
  | zero =>
    intro fuel q hq hf
    obtain ⟨fuel, rfl⟩ : ∃ f, fuel = f + 1 := ⟨fuel - 1, by omega⟩
    show sX5_areActs_L2 (fX5_areActs_L2 t (nI i) (nI n) fuel) t (nI i) (nI n) (nI q) μ = _
    unfold sX5_areActs_L2
    rw [if_pos ((le_nI (by omega) (by omega)).mpr (by omega))]
    rfl
  | succ m ih =>
    intro fuel q hq hf
    obtain ⟨fuel, rfl⟩ : ∃ f, fuel = f + 1 := ⟨fuel - 1, by omega⟩
    show sX5_areActs_L2 (fX5_areActs_L2 t (nI i) (nI n) fuel) t (nI i) (nI n) (nI q) μ = _
    unfold sX5_areActs_L2
    have c1 : μ (t + 4) (i + 2 * q) = (P q).1 := congrArg Prod.fst (hP q (by omega))
    have c2 : μ (t + 4) (i + 2 * q + 1) = (P q).2 := congrArg Prod.snd (hP q (by omega))
    rw [if_neg (fun z => absurd ((le_nI (by omega) (by omega)).mp z) (by omega)), show (2 : Int32) = nI 2 from rfl, pk_mul, nI_add, lti_e, nI_1, getCell_eq h3 hl (by omega), bnd_s, getCell_eq h3 hl (by omega), bnd_s, c1, c2, isAct_eq, bnd_s, lti_e, nI_1, List.range'_succ, List.all_cons]
    by_cases hz : iaF (P q).1 (P q).2 = 0
    · rw [if_pos hz, decide_eq_true hz]
      rfl
    · rw [if_neg hz, decide_eq_false hz, ih fuel (q + 1) (by omega) (by omega)]
      rfl
theorem X5_after_L {len k i n w : Nat} {P : Nat → Int32 × Int32} (hk4 : k < 4) (hw : w ≤ 4) (hl : len ≤ 60) (hin : i + 2 * n ≤ len) (hA : ∀ q, q < n → okA (P q).1 (P q).2) {μ0 : Mem} (h3 : μ0 (22 + 1 + k) 3 = nI len) (hP : ∀ q, q < n → (μ0 (22 + 1 + k + 4) (i + 2 * q), μ0 (22 + 1 + k + 4) (i + 2 * q + 1)) = P q) :
    ∀ (m fuel q c : Nat) (s : WS) (μ : Mem), q + m = n → m < fuel → okW s.1 → IsW μ 9 s.1 s.2.1 s.2.2 → FrW μ0 μ 9 →
    ∃ μ', fX5_afterDays_L17 (22 + 1 + k) (nI i) (nI n) (nI w) fuel (nI c) (nI q) μ = some (dyF w (goD P m q s c), μ') ∧ FrW μ0 μ' 9 := by
  intro m
  induction m with
  | zero =>
    intro fuel q c s μ hq hf hk hW hF
    obtain ⟨fuel, rfl⟩ : ∃ f, fuel = f + 1 := ⟨fuel - 1, by omega⟩
    refine ⟨μ, ?_, hF⟩
    show sX5_afterDays_L17 (fX5_afterDays_L17 (22 + 1 + k) (nI i) (nI n) (nI w) fuel) (22 + 1 + k) (nI i) (nI n) (nI w) (nI c) (nI q) μ = _
    unfold sX5_afterDays_L17
    rw [if_pos ((le_nI (by omega) (by omega)).mpr (by omega))]
    show _ = some (if w = 1 then -9 else tlF w s c, μ)
    have h6 := hW.1
    have hh := hrd_len (s.2.1 - s.2.2) s.1
    match w, hw with
    | 0, _ => rw [if_pos (show nI 0 = 0 from rfl), hW.2.1]; rfl
    | 1, _ => rw [if_neg (by decide), if_pos (show nI 1 = 1 from rfl)]; rfl
    | 2, _ =>
      rw [if_neg (by decide), if_neg (by decide), if_pos (show nI 2 = 2 from rfl), warmth_eq hW, bnd_s, X4_counselBy hW hk, bnd_s]
      rfl
    | 3, _ =>
      rw [if_neg (by decide), if_neg (by decide), if_neg (by decide), if_pos (show nI 3 = 3 from rfl), warmth_eq hW, bnd_s, X4_heardBy hW, bnd_s]
      unfold fX5_setOfFirst
      rw [set_first ⟨(hrd (s.2.1 - s.2.2) s.1).length, by omega⟩, bnd_s]
      rfl
    | 4, _ => rw [if_neg (by decide), if_neg (by decide), if_neg (by decide), if_neg (by decide), if_pos (show nI 4 = 4 from rfl)]; rfl
  | succ m ih =>
    intro fuel q c s μ hq hf hk hW hF
    obtain ⟨fuel, rfl⟩ : ∃ f, fuel = f + 1 := ⟨fuel - 1, by omega⟩
    show ∃ μ', sX5_afterDays_L17 (fX5_afterDays_L17 (22 + 1 + k) (nI i) (nI n) (nI w) fuel) (22 + 1 + k) (nI i) (nI n) (nI w) (nI c) (nI q) μ = _ ∧ _
    unfold sX5_afterDays_L17
    have g3 : μ (22 + 1 + k) 3 = nI len := by rw [hF _ (by omega)]; exact h3
    have c1 : μ (22 + 1 + k + 4) (i + 2 * q) = (P q).1 := by rw [hF _ (by omega)]; exact congrArg Prod.fst (hP q (by omega))
    have c2 : μ (22 + 1 + k + 4) (i + 2 * q + 1) = (P q).2 := by rw [hF _ (by omega)]; exact congrArg Prod.snd (hP q (by omega))
    rw [if_neg (fun z => absurd ((le_nI (by omega) (by omega)).mp z) (by omega)), show (2 : Int32) * nI q = nI (2 * q) from pk_mul 2 q, nI_add, lti_e, nI_1, getCell_eq g3 hl (by omega), bnd_s, getCell_eq g3 hl (by omega), bnd_s, c1, c2]
    rcases X4_doAct (a := (P q).1) (v := (P q).2) hW (hA q (by omega)) with ⟨e0, e1⟩ | ⟨s', μ1, e0, e1, e2, e3⟩
    · refine ⟨μ, ?_, hF⟩
      rw [e1, bnd_s, if_pos rfl]
      unfold goD
      rw [e0]
      show _ = some (if w = 1 then nI q else -100 - nI q, μ)
      by_cases h1 : w = 1
      · rw [if_pos h1, h1, if_pos (show nI 1 = 1 from rfl)]
      · rw [if_neg h1, if_neg (show ¬ nI w = 1 from fun z => h1 ((nI_eq (b := 1) (by omega) (by omega)).mp z))]
    · unfold goD
      rw [e0, e1, bnd_s, if_neg (by decide), warmth_eq e2, bnd_s, X4_heardBy e2, bnd_s, lti_e, lti_e, lti_e, nI_1, nI_1]
      have h6 := e2.1
      have hh := hrd_len (s'.2.1 - s'.2.2) s'.1
      by_cases hz : hdn s' = 0
      · rw [if_pos (show nI (hrd (s'.2.1 - s'.2.2) s'.1).length ≤ 0 from (le_nI (b := 0) (by omega) (by omega)).mpr (by unfold hdn at hz; omega))]
        dsimp only
        rw [if_pos hz]
        exact ih fuel (q + 1) c s' μ1 (by omega) (by omega) (stp_ok hk (hA q (by omega)) e0) e2 (hF.tr e3)
      · rw [if_neg (show ¬ nI (hrd (s'.2.1 - s'.2.2) s'.1).length ≤ 0 from fun z => hz (by have := (le_nI (b := 0) (by omega) (by omega)).mp z; unfold hdn; omega))]
        dsimp only
        rw [if_neg hz]
        exact ih fuel (q + 1) (c + 1) s' μ1 (by omega) (by omega) (stp_ok hk (hA q (by omega)) e0) e2 (hF.tr e3)
