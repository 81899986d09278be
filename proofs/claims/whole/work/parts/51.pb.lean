/-! PURE: the reference; sets of layers as bits -/
theorem lti_e {β : Type} (v : Int32) (k : Int32 → β) : lti v k = k v := rfl
theorem ltm_e {β : Type} (v : Mem) (k : Mem → β) : ltm v k = k v := rfl
theorem ltl_e {β : Type} (v : Int64) (k : Int64 → β) : ltl v k = k v := rfl
theorem of_bit : ∀ (S : Fin 64) (j : Fin 6), (((nI S.val >>> (nI j.val &&& 31)) &&& 1) = 1) ↔ S.val.testBit j.val = true := by decide +kernel
theorem of_or : ∀ (S : Fin 64) (j : Fin 6), (nI S.val ||| ((1 : Int32) <<< (nI j.val &&& 31))) = nI (S.val ||| 2 ^ j.val) ∧ S.val ||| 2 ^ j.val < 64 := by decide +kernel
theorem X6_isOf {S j : Nat} (hS : S < 64) (hj : j < 6) (μ : Mem) : fX6_isOf (nI S) (nI j) μ = some (if S.testBit j then 1 else 0, μ) := by
  unfold fX6_isOf
  have h := of_bit ⟨S, hS⟩ ⟨j, hj⟩
  by_cases hb : S.testBit j = true
  · rw [if_pos (h.mpr hb), if_pos hb]
  · rw [if_neg (fun z => hb (h.mp z)), if_neg hb]
theorem X6_gripOf {μ : Mem} {ls : List LT} {wm dm : Int32} (h : IsM μ ls wm dm) (hk : okW ls) {k : Nat} (hkl : k < ls.length) : fX6_gripOf (nI k) μ = some (grp (lyr ls k), μ) := by
  obtain ⟨h6, -, -, -, hj⟩ := h
  unfold fX6_gripOf
  have e1 : μ 35 k = (lyr ls k).1 := congrArg Prod.fst (hj k hkl)
  have e2 : μ 36 k = (lyr ls k).2.1 := congrArg (fun t => t.2.1) (hj k hkl)
  have hi : inb (nI k) 6 := inb_nI (by omega) (by omega)
  rw [cl_nI (by omega), e1, e2]
  simp only [if_pos hi]
  unfold grp
  rcases (hk _ (lyr_mem hkl)).1 with e | e | e
  · rw [if_pos e, if_neg (by rw [e]; decide), if_neg (by rw [e]; decide)]
  · rw [if_neg (by rw [e]; decide), if_pos e, if_pos e]
  · rw [if_neg (by rw [e]; decide), if_neg (by rw [e]; decide), if_neg (by rw [e]; decide), if_pos e]
/-- the reference's row of layers -/
def IsO (μ : Mem) (os : List Nat) : Prop := ∀ q, q < os.length → μ 39 q = nI (os.getD q 0)
theorem drop_nat {os : List Nat} {k : Nat} (h : k < os.length) : os.drop k = os.getD k 0 :: os.drop (k + 1) := by
  rw [List.drop_eq_getElem_cons h, List.getD_eq_getElem?_getD, List.getElem?_eq_getElem h]
  rfl
theorem getD_mem {os : List Nat} {k : Nat} (h : k < os.length) : os.getD k 0 ∈ os := by
  rw [List.getD_eq_getElem?_getD, List.getElem?_eq_getElem h]
  exact List.getElem_mem h
def lfR (p : Nat → Bool) (out : Nat) : List Nat → Nat → Nat
  | [], s => s
  | k :: r, s => if out.testBit k then lfR p out r s else if p k then lfR p out r (s ||| 2 ^ k) else s
theorem X6_liftedBy_L {μ : Mem} {ls : List LT} {wm dm : Int32} (h : IsM μ ls wm dm) (hk : okW ls) {os : List Nat} (ho : IsO μ os) (hol : os.length = ls.length) (hos : ∀ k ∈ os, k < ls.length) (w1 w2 : Int32) {out : Nat} (hout : out < 64) :
    ∀ (fuel q S : Nat), q ≤ os.length → os.length < q + fuel → S < 64 → fX6_liftedBy_L6 w1 w2 (nI out) fuel (nI S) (nI q) μ = some (nI (lfR (fun k => pL (w1 - w2) (lyr ls k)) out (os.drop q) S), μ) := by
  have hM := h
  obtain ⟨h6, hc, -, -, hj⟩ := h
  intro fuel
  induction fuel with
  | zero => intro q S h1 h2; omega
  | succ fuel ih =>
    intro q S h1 h2 hS
    show sX6_liftedBy_L6 (fX6_liftedBy_L6 w1 w2 (nI out) fuel) w1 w2 (nI out) (nI S) (nI q) μ = _
    unfold sX6_liftedBy_L6
    rw [hc]
    by_cases hq : ls.length ≤ q
    · rw [if_pos ((le_nI (by omega) (by omega)).mpr hq), List.drop_eq_nil_of_le (by omega)]
      rfl
    · have hql : q < os.length := by omega
      rw [if_neg (fun z => hq ((le_nI (by omega) (by omega)).mp z)), if_pos (inb_nI (by omega) (by omega)), cl_nI (by omega), ho q hql]
      have hkl : os.getD q 0 < ls.length := hos _ (getD_mem hql)
      rw [lti_e, X6_isOf hout (by omega), bnd_s, drop_nat hql]
      unfold lfR
      by_cases hb : out.testBit (os.getD q 0) = true
      · rw [if_pos hb, if_pos hb, if_neg (by decide)]
        show fX6_liftedBy_L6 w1 w2 (nI out) fuel (nI S) (nI q + 1) μ = _
        rw [nI_1, ih (q + 1) S (by omega) (by omega) hS]
      · rw [if_neg hb, if_neg hb, if_pos rfl, X6_gripOf hM hk hkl, bnd_s]
        by_cases hg : grp (lyr ls (os.getD q 0)) ≤ w1 - w2
        · have hp : pL (w1 - w2) (lyr ls (os.getD q 0)) = true := decide_eq_true hg
          rw [if_pos hg, if_pos hp]
          have hor := of_or ⟨S, hS⟩ ⟨os.getD q 0, by omega⟩
          show fX6_liftedBy_L6 w1 w2 (nI out) fuel (nI S ||| ((1 : Int32) <<< (nI (os.getD q 0) &&& 31))) (nI q + 1) μ = _
          rw [hor.1, nI_1, ih (q + 1) _ (by omega) (by omega) hor.2]
        · have hp : ¬ pL (w1 - w2) (lyr ls (os.getD q 0)) = true := fun z => hg (of_decide_eq_true z)
          rw [if_neg hg, if_neg hp]
theorem X6_liftedBy {μ : Mem} {ls : List LT} {wm dm : Int32} (h : IsM μ ls wm dm) (hk : okW ls) {os : List Nat} (ho : IsO μ os) (hol : os.length = ls.length) (hos : ∀ k ∈ os, k < ls.length) (w1 w2 : Int32) {out : Nat} (hout : out < 64) :
    fX6_liftedBy w1 w2 (nI out) μ = some (nI (lfR (fun k => pL (w1 - w2) (lyr ls k)) out os 0), μ) := by
  have h6 := h.1
  have := X6_liftedBy_L h hk ho hol hos w1 w2 hout FU 0 0 (Nat.zero_le _) (by show _ < 0 + 1000; omega) (by decide)
  rw [List.drop_zero] at this
  exact this
def hrR (rd : Nat → Bool) (S : Nat) : List Nat → Nat → Nat
  | [], s => s
  | k :: r, s => if S.testBit k then (if rd k then s else hrR rd S r (s ||| 2 ^ k)) else hrR rd S r s
theorem X6_heardBy_L {μ : Mem} {ls : List LT} {wm dm : Int32} (h : IsM μ ls wm dm) {os : List Nat} (ho : IsO μ os) (hol : os.length = ls.length) (hos : ∀ k ∈ os, k < ls.length) {T : Nat} (hT : T < 64) :
    ∀ (fuel q S : Nat), q ≤ os.length → os.length < q + fuel → S < 64 → fX6_heardBy_L15 (nI T) fuel (nI S) (nI q) μ = some (nI (hrR (fun k => pR (lyr ls k)) T (os.drop q) S), μ) := by
  obtain ⟨h6, hc, -, -, hj⟩ := h
  intro fuel
  induction fuel with
  | zero => intro q S h1 h2; omega
  | succ fuel ih =>
    intro q S h1 h2 hS
    show sX6_heardBy_L15 (fX6_heardBy_L15 (nI T) fuel) (nI T) (nI S) (nI q) μ = _
    unfold sX6_heardBy_L15
    rw [hc]
    by_cases hq : ls.length ≤ q
    · rw [if_pos ((le_nI (by omega) (by omega)).mpr hq), List.drop_eq_nil_of_le (by omega)]
      rfl
    · have hql : q < os.length := by omega
      rw [if_neg (fun z => hq ((le_nI (by omega) (by omega)).mp z)), if_pos (inb_nI (by omega) (by omega)), cl_nI (by omega), ho q hql]
      have hkl : os.getD q 0 < ls.length := hos _ (getD_mem hql)
      rw [lti_e, X6_isOf hT (by omega), bnd_s, drop_nat hql]
      unfold hrR
      by_cases hb : T.testBit (os.getD q 0) = true
      · have e1 : μ 35 (os.getD q 0) = (lyr ls (os.getD q 0)).1 := congrArg Prod.fst (hj _ hkl)
        rw [if_pos hb, if_pos hb, if_neg (by decide), if_pos (inb_nI (by omega) (by omega)), cl_nI (by omega), e1]
        by_cases hr : (lyr ls (os.getD q 0)).1 = 2
        · have hp : pR (lyr ls (os.getD q 0)) = true := decide_eq_true hr
          rw [if_pos hr, if_pos hp]
        · have hp : ¬ pR (lyr ls (os.getD q 0)) = true := fun z => hr (of_decide_eq_true z)
          rw [if_neg hr, if_neg hp]
          have hor := of_or ⟨S, hS⟩ ⟨os.getD q 0, by omega⟩
          show fX6_heardBy_L15 (nI T) fuel (nI S ||| ((1 : Int32) <<< (nI (os.getD q 0) &&& 31))) (nI q + 1) μ = _
          rw [hor.1, nI_1, ih (q + 1) _ (by omega) (by omega) hor.2]
      · rw [if_neg hb, if_neg hb, if_pos rfl]
        show fX6_heardBy_L15 (nI T) fuel (nI S) (nI q + 1) μ = _
        rw [nI_1, ih (q + 1) S (by omega) (by omega) hS]
theorem or_lt64 {S j : Nat} (hS : S < 64) (hj : j < 6) : S ||| 2 ^ j < 64 := (of_or ⟨S, hS⟩ ⟨j, hj⟩).2
theorem lfR_lt {p : Nat → Bool} {out : Nat} : ∀ (l : List Nat) (S : Nat), (∀ k ∈ l, k < 6) → S < 64 → lfR p out l S < 64
  | [], S, _, h => h
  | k :: r, S, hl, h => by
    have hr : ∀ x ∈ r, x < 6 := fun x hx => hl x (List.mem_cons_of_mem _ hx)
    unfold lfR
    split
    · exact lfR_lt r S hr h
    · split
      · exact lfR_lt r _ hr (or_lt64 h (hl k List.mem_cons_self))
      · exact h
theorem hrR_lt {p : Nat → Bool} {T : Nat} : ∀ (l : List Nat) (S : Nat), (∀ k ∈ l, k < 6) → S < 64 → hrR p T l S < 64
  | [], S, _, h => h
  | k :: r, S, hl, h => by
    have hr : ∀ x ∈ r, x < 6 := fun x hx => hl x (List.mem_cons_of_mem _ hx)
    unfold hrR
    split
    · split
      · exact h
      · exact hrR_lt r _ hr (or_lt64 h (hl k List.mem_cons_self))
    · exact hrR_lt r S hr h
/-! sets by lists -/
def bts (l : List Nat) : Nat := match l with
  | [] => 0
  | k :: r => 2 ^ k ||| bts r
theorem bts_mem : ∀ (l : List Nat) (j : Nat), (bts l).testBit j = decide (j ∈ l)
  | [], j => by simp [bts]
  | k :: r, j => by
    unfold bts
    rw [Nat.testBit_or, bts_mem r j, Nat.testBit_two_pow]
    by_cases h : k = j
    · subst h; simp
    · have : ¬ j = k := fun e => h e.symm
      simp [h, this]
theorem or_bts : ∀ (l : List Nat) (S j : Nat), (S ||| bts l).testBit j = (S.testBit j || decide (j ∈ l)) := fun l S j => by rw [Nat.testBit_or, bts_mem]
theorem lfR_bts {p : Nat → Bool} {out : Nat} : ∀ (l : List Nat) (S : Nat), lfR p out l S = S ||| bts ((l.filter (fun k => !out.testBit k)).takeWhile p)
  | [], S => by simp [lfR, bts]
  | k :: r, S => by
    unfold lfR
    by_cases hb : out.testBit k = true
    · rw [if_pos hb, lfR_bts r S, List.filter_cons, if_neg (by simp [hb])]
    · have e : (!out.testBit k) = true := by simp [hb]
      rw [if_neg hb, List.filter_cons, if_pos e, List.takeWhile_cons]
      by_cases hp : p k = true
      · rw [if_pos hp, if_pos hp, lfR_bts r _]
        simp only [bts]
        rw [Nat.or_assoc]
      · rw [if_neg hp, if_neg hp]
        simp [bts]
theorem filter_sub {l os : List Nat} (h : l.Sublist os) (hn : os.Nodup) : os.filter (fun k => decide (k ∈ l)) = l := by
  induction h with
  | slnil => rfl
  | cons a hs ih =>
    rename_i l1 l2
    have h1 := List.nodup_cons.mp hn
    have ha : a ∉ l1 := fun z => h1.1 (hs.subset z)
    rw [List.filter_cons, if_neg (by simp [ha])]
    exact ih h1.2
  | cons_cons a hs ih =>
    rename_i l1 l2
    have h1 := List.nodup_cons.mp hn
    rw [List.filter_cons, if_pos (by simp)]
    congr 1
    have : l2.filter (fun k => decide (k ∈ a :: l1)) = l2.filter (fun k => decide (k ∈ l1)) := by
      apply List.filter_congr
      intro x hx
      have : x ≠ a := fun e => h1.1 (e ▸ hx)
      simp [this]
    rw [this]
    exact ih h1.2
theorem hrR_bts {rd : Nat → Bool} {T : Nat} : ∀ (l : List Nat) (S : Nat), hrR rd T l S = S ||| bts ((l.filter (fun k => T.testBit k)).takeWhile (fun k => !rd k))
  | [], S => by simp [hrR, bts]
  | k :: r, S => by
    unfold hrR
    by_cases hb : T.testBit k = true
    · rw [if_pos hb, List.filter_cons, if_pos hb, List.takeWhile_cons]
      by_cases hp : rd k = true
      · rw [if_pos hp, if_neg (by simp [hp])]
        simp [bts]
      · rw [if_neg hp, if_pos (by simp [hp]), hrR_bts r _]
        simp only [bts]
        rw [Nat.or_assoc]
    · rw [if_neg hb, List.filter_cons, if_neg hb, hrR_bts r S]
theorem tw_tw {α : Type} {p q : α → Bool} : ∀ (l : List α), (l.takeWhile p).takeWhile q = l.takeWhile (fun k => q k && p k)
  | [] => rfl
  | a :: r => by
    rw [List.takeWhile_cons, List.takeWhile_cons]
    by_cases hp : p a = true
    · rw [if_pos hp, List.takeWhile_cons]
      by_cases hq : q a = true
      · rw [if_pos hq, if_pos (by simp [hp, hq]), tw_tw r]
      · rw [if_neg hq, if_neg (by simp [hq])]
    · rw [if_neg hp, if_neg (by simp [hp])]
      rfl
/-- the layers that are heard, by their numbers -/
def HL (W : Int32) (ls : List LT) (out : Nat) (os : List Nat) : List Nat := (os.filter (fun k => !out.testBit k)).takeWhile (fun k => pH W (lyr ls k))
theorem HL_sub (W : Int32) (ls : List LT) (out : Nat) (os : List Nat) : (HL W ls out os).Sublist os := (List.takeWhile_sublist _).trans List.filter_sublist
theorem X6_heardBy {μ : Mem} {ls : List LT} {wm dm : Int32} (h : IsM μ ls wm dm) (hk : okW ls) {os : List Nat} (ho : IsO μ os) (hol : os.length = ls.length) (hos : ∀ k ∈ os, k < ls.length) (hnd : os.Nodup) (w1 w2 : Int32) {out : Nat} (hout : out < 64) :
    fX6_heardBy w1 w2 (nI out) μ = some (nI (bts (HL (w1 - w2) ls out os)), μ) ∧ bts (HL (w1 - w2) ls out os) < 64 := by
  have h6 := h.1
  have hos6 : ∀ k ∈ os, k < 6 := fun k hk => by have := hos k hk; omega
  have hT := lfR_lt (p := fun k => pL (w1 - w2) (lyr ls k)) (out := out) os 0 hos6 (by decide)
  have hR := hrR_lt (p := fun k => pR (lyr ls k)) (T := lfR (fun k => pL (w1 - w2) (lyr ls k)) out os 0) os 0 hos6 (by decide)
  have e : hrR (fun k => pR (lyr ls k)) (lfR (fun k => pL (w1 - w2) (lyr ls k)) out os 0) os 0 = bts (HL (w1 - w2) ls out os) := by
    rw [hrR_bts, Nat.zero_or, lfR_bts, Nat.zero_or]
    have e1 : (fun k => (bts ((os.filter (fun k => !out.testBit k)).takeWhile (fun k => pL (w1 - w2) (lyr ls k)))).testBit k) = (fun k => decide (k ∈ (os.filter (fun k => !out.testBit k)).takeWhile (fun k => pL (w1 - w2) (lyr ls k)))) := by
      funext k
      rw [bts_mem]
    rw [e1, filter_sub ((List.takeWhile_sublist _).trans List.filter_sublist) hnd, tw_tw]
    rfl
  rw [e] at hR
  refine ⟨?_, hR⟩
  unfold fX6_heardBy
  rw [X6_liftedBy h hk ho hol hos w1 w2 hout, bnd_s]
  have := X6_heardBy_L h ho hol hos hT FU 0 0 (Nat.zero_le _) (by show _ < 0 + 1000; omega) (by decide)
  rw [List.drop_zero, e] at this
  exact this
def gvN (ls : List LT) (S : Nat) (v : Int32) (k m : Nat) : Nat := match m with
  | 0 => 0
  | m + 1 => (if S.testBit k && adv (lyr ls k) == v then 1 else 0) + gvN ls S v (k + 1) m
theorem X6_givers_L {μ : Mem} {ls : List LT} {wm dm : Int32} (h : IsM μ ls wm dm) {S : Nat} (hS : S < 64) (v : Int32) :
    ∀ (fuel k m n : Nat), k + m = ls.length → m < fuel → fX6_givers_L5 (nI S) v fuel (nI n) (nI k) μ = some (nI (n + gvN ls S v k m), μ) := by
  obtain ⟨h6, hc, -, -, hj⟩ := h
  intro fuel
  induction fuel with
  | zero => intro k m n h1 h2; omega
  | succ fuel ih =>
    intro k m n h1 h2
    show sX6_givers_L5 (fX6_givers_L5 (nI S) v fuel) (nI S) v (nI n) (nI k) μ = _
    unfold sX6_givers_L5
    rw [hc]
    cases m with
    | zero =>
      rw [if_pos ((le_nI (by omega) (by omega)).mpr (by omega))]
      rfl
    | succ m =>
      rw [if_neg (fun z => absurd ((le_nI (by omega) (by omega)).mp z) (by omega)), X6_isOf hS (by omega), bnd_s]
      unfold gvN
      have z0 : ∀ a : Nat, nI a + 0 = nI a := fun a => by rw [show (0 : Int32) = nI 0 from rfl, nI_add]; rfl
      by_cases hb : S.testBit k = true
      · have e1 : μ 37 k = adv (lyr ls k) := congrArg (fun t => t.2.2) (hj k (by omega))
        rw [if_pos hb, if_neg (by decide), if_pos (inb_nI (by omega) (by omega)), cl_nI (by omega), e1]
        by_cases he : adv (lyr ls k) = v
        · rw [if_pos he, if_pos (by simp [hb, he])]
          show fX6_givers_L5 (nI S) v fuel (nI n + 1) (nI k + 1) μ = _
          rw [nI_1, nI_1, ih (k + 1) m (n + 1) (by omega) (by omega)]
          congr 3
          omega
        · rw [if_neg he, if_neg (by simp [he])]
          show fX6_givers_L5 (nI S) v fuel (nI n + 0) (nI k + 1) μ = _
          rw [z0, nI_1, ih (k + 1) m n (by omega) (by omega)]
          congr 3
          omega
      · rw [if_neg hb, if_pos rfl, if_neg (by simp [hb])]
        show fX6_givers_L5 (nI S) v fuel (nI n + 0) (nI k + 1) μ = _
        rw [z0, nI_1, ih (k + 1) m n (by omega) (by omega)]
        congr 3
        omega
theorem gv_or {ls : List LT} {v : Int32} {S a : Nat} (ha : S.testBit a = false) : ∀ (m k : Nat), gvN ls (2 ^ a ||| S) v k m = gvN ls S v k m + (if k ≤ a ∧ a < k + m ∧ adv (lyr ls a) = v then 1 else 0)
  | 0, k => by
    have : ¬ (k ≤ a ∧ a < k + 0 ∧ adv (lyr ls a) = v) := by omega
    rw [if_neg this]
    rfl
  | m + 1, k => by
    unfold gvN
    rw [gv_or ha m (k + 1), Nat.testBit_or, Nat.testBit_two_pow]
    by_cases hka : a = k
    · subst hka
      have n1 : ¬ (a + 1 ≤ a ∧ a < a + 1 + m ∧ adv (lyr ls a) = v) := by omega
      rw [if_neg n1, ha]
      by_cases he : adv (lyr ls a) = v
      · have p1 : a ≤ a ∧ a < a + (m + 1) ∧ adv (lyr ls a) = v := ⟨by omega, by omega, he⟩
        rw [if_pos p1]
        simp [he]
        omega
      · have p1 : ¬ (a ≤ a ∧ a < a + (m + 1) ∧ adv (lyr ls a) = v) := fun z => he z.2.2
        rw [if_neg p1]
        simp [he]
    · have e : decide (a = k) = false := by simp [hka]
      rw [e, Bool.false_or]
      by_cases hc : k + 1 ≤ a ∧ a < k + 1 + m ∧ adv (lyr ls a) = v
      · have p1 : k ≤ a ∧ a < k + (m + 1) ∧ adv (lyr ls a) = v := ⟨by omega, by omega, hc.2.2⟩
        rw [if_pos hc, if_pos p1]
        omega
      · have p1 : ¬ (k ≤ a ∧ a < k + (m + 1) ∧ adv (lyr ls a) = v) := fun z => hc ⟨by omega, by omega, z.2.2⟩
        rw [if_neg hc, if_neg p1]
        omega
theorem gv_count {ls : List LT} {v : Int32} : ∀ (l : List Nat), l.Nodup → (∀ k ∈ l, k < ls.length) → gvN ls (bts l) v 0 ls.length = (l.map (fun k => adv (lyr ls k))).count v
  | [], _, _ => by
    have : ∀ m k, gvN ls 0 v k m = 0 := by
      intro m
      induction m with
      | zero => intro k; rfl
      | succ m ih => intro k; unfold gvN; rw [ih]; simp
    simp [bts, this]
  | a :: r, hn, hl => by
    have h1 := List.nodup_cons.mp hn
    have ih := gv_count (v := v) r h1.2 (fun k hk => hl k (List.mem_cons_of_mem _ hk))
    have hal := hl a List.mem_cons_self
    unfold bts
    rw [gv_or (by rw [bts_mem]; simp [h1.1]), ih, List.map_cons, List.count_cons]
    congr 1
    by_cases he : adv (lyr ls a) = v
    · rw [if_pos ⟨Nat.zero_le _, by omega, he⟩]
      simp [he]
    · rw [if_neg (fun z => he z.2.2)]
      simp [he]
theorem X6_givers {μ : Mem} {ls : List LT} {wm dm : Int32} (h : IsM μ ls wm dm) {l : List Nat} (hn : l.Nodup) (hl : ∀ k ∈ l, k < ls.length) (hS : bts l < 64) (v : Int32) : fX6_givers (nI (bts l)) v μ = some (nI ((l.map (fun k => adv (lyr ls k))).count v), μ) := by
  have h6 := h.1
  have := X6_givers_L h hS v FU 0 ls.length 0 (by omega) (by show _ < 1000; omega)
  rw [Nat.zero_add, gv_count l hn hl] at this
  exact this
def cnR (S : Nat) (g : Int32 → Nat) (av : Nat → Int32) : List Nat → Nat → Int32 → Int32
  | [], _, b => b
  | k :: r, m, b => if S.testBit k then (if m < g (av k) then cnR S g av r (g (av k)) (av k) else cnR S g av r m b) else cnR S g av r m b
theorem cnR_cnsF {S : Nat} {g : Int32 → Nat} {av : Nat → Int32} : ∀ (l : List Nat) (m : Nat) (b : Int32), cnR S g av l m b = cnsF g ((l.filter (fun k => S.testBit k)).map av) m b
  | [], _, _ => rfl
  | k :: r, m, b => by
    unfold cnR
    by_cases hb : S.testBit k = true
    · rw [if_pos hb, List.filter_cons, if_pos hb, List.map_cons]
      unfold cnsF
      split
      · exact cnR_cnsF r _ _
      · exact cnR_cnsF r _ _
    · rw [if_neg hb, List.filter_cons, if_neg hb]
      exact cnR_cnsF r _ _
theorem X6_counselBy_L {μ : Mem} {ls : List LT} {wm dm : Int32} (h : IsM μ ls wm dm) {os : List Nat} (ho : IsO μ os) (hol : os.length = ls.length) (hos : ∀ k ∈ os, k < ls.length) {l : List Nat} (hn : l.Nodup) (hl : ∀ k ∈ l, k < ls.length) (hS : bts l < 64) :
    ∀ (fuel q mo : Nat) (b : Int32), q ≤ os.length → os.length < q + fuel → mo ≤ l.length → fX6_counselBy_L19 (nI (bts l)) fuel b (nI mo) (nI q) μ = some (cnR (bts l) (fun a => (l.map (fun k => adv (lyr ls k))).count a) (fun k => adv (lyr ls k)) (os.drop q) mo b, μ) := by
  have hM := h
  obtain ⟨h6, hc, -, -, hj⟩ := h
  have hll : l.length ≤ 6 := by
    have h1 : ∀ (n : Nat) (l : List Nat), l.Nodup → (∀ k ∈ l, k < n) → l.length ≤ n := by
      intro n
      induction n with
      | zero => intro l _ hl; cases l with
        | nil => exact Nat.le_refl _
        | cons a r => exact absurd (hl a List.mem_cons_self) (by omega)
      | succ n ih =>
        intro l hn hl
        have h2 := ih (l.filter (fun k => !(k == n))) (hn.filter _) (fun k hk => by
          have := List.mem_filter.mp hk
          have h3 := hl k this.1
          have h4 : ¬ k = n := by simpa using this.2
          omega)
        have h5 : l.length ≤ (l.filter (fun k => !(k == n))).length + 1 := by
          clear ih h2 hl
          induction l with
          | nil => exact Nat.zero_le _
          | cons a r ihr =>
            have h6 := List.nodup_cons.mp hn
            rw [List.filter_cons]
            by_cases e : a = n
            · have : r.filter (fun k => !(k == n)) = r := List.filter_eq_self.mpr (fun k hk => by
                have : k ≠ n := fun z => h6.1 (e ▸ z ▸ hk)
                simp [this])
              rw [if_neg (by simp [e]), this]
              exact Nat.le_refl _
            · rw [if_pos (by simp [e]), List.length_cons, List.length_cons]
              exact Nat.succ_le_succ (ihr h6.2)
        omega
    have := h1 ls.length l hn hl
    omega
  have hgl : ∀ a, (l.map (fun k => adv (lyr ls k))).count a ≤ l.length := fun a => by
    have := List.count_le_length (a := a) (l := l.map (fun k => adv (lyr ls k)))
    rw [List.length_map] at this
    exact this
  intro fuel
  induction fuel with
  | zero => intro q mo b h1 h2; omega
  | succ fuel ih =>
    intro q mo b h1 h2 hm
    show sX6_counselBy_L19 (fX6_counselBy_L19 (nI (bts l)) fuel) (nI (bts l)) b (nI mo) (nI q) μ = _
    unfold sX6_counselBy_L19
    rw [hc]
    by_cases hq : ls.length ≤ q
    · rw [if_pos ((le_nI (by omega) (by omega)).mpr hq), List.drop_eq_nil_of_le (by omega)]
      rfl
    · have hql : q < os.length := by omega
      rw [if_neg (fun z => hq ((le_nI (by omega) (by omega)).mp z)), if_pos (inb_nI (by omega) (by omega)), cl_nI (by omega), ho q hql]
      have hkl : os.getD q 0 < ls.length := hos _ (getD_mem hql)
      rw [lti_e, X6_isOf hS (by omega), bnd_s, drop_nat hql]
      unfold cnR
      by_cases hb : (bts l).testBit (os.getD q 0) = true
      · have e1 : μ 37 (os.getD q 0) = adv (lyr ls (os.getD q 0)) := congrArg (fun t => t.2.2) (hj _ hkl)
        have hi : inb (nI (os.getD q 0)) 6 := inb_nI (by omega) (by omega)
        have hg1 := hgl (adv (lyr ls (os.getD q 0)))
        rw [if_pos hb, if_pos hb, if_neg (by decide), if_pos hi, cl_nI (by omega), e1, X6_givers hM hn hl hS, bnd_s]
        by_cases hg : mo < (l.map (fun k => adv (lyr ls k))).count (adv (lyr ls (os.getD q 0)))
        · rw [if_neg (fun z => absurd ((le_nI (by omega) (by omega)).mp z) (by omega)), if_pos hi, e1, X6_givers hM hn hl hS, bnd_s, if_pos hi, e1, if_pos hg]
          show fX6_counselBy_L19 (nI (bts l)) fuel (adv (lyr ls (os.getD q 0))) (nI _) (nI q + 1) μ = _
          rw [nI_1, ih (q + 1) _ _ (by omega) (by omega) hg1]
        · rw [if_pos ((le_nI (by omega) (by omega)).mpr (by omega)), if_neg hg]
          show fX6_counselBy_L19 (nI (bts l)) fuel b (nI mo) (nI q + 1) μ = _
          rw [nI_1, ih (q + 1) _ _ (by omega) (by omega) hm]
      · rw [if_neg hb, if_neg hb, if_pos rfl]
        show fX6_counselBy_L19 (nI (bts l)) fuel b (nI mo) (nI q + 1) μ = _
        rw [nI_1, ih (q + 1) _ _ (by omega) (by omega) hm]
/-- the layers as they lie: those of the row that are not out -/
def seqL (ls : List LT) (out : Nat) (os : List Nat) : List LT := (os.filter (fun k => !out.testBit k)).map (lyr ls)
theorem HL_map (W : Int32) (ls : List LT) (out : Nat) (os : List Nat) : (HL W ls out os).map (lyr ls) = hrd W (seqL ls out os) := by
  unfold HL seqL hrd
  generalize os.filter (fun k => !out.testBit k) = l
  induction l with
  | nil => rfl
  | cons a r ih =>
    rw [List.takeWhile_cons, List.map_cons, List.takeWhile_cons]
    split
    · rw [List.map_cons, ih]
    · rfl
theorem X6_counselBy {μ : Mem} {ls : List LT} {wm dm : Int32} (h : IsM μ ls wm dm) (hk : okW ls) {os : List Nat} (ho : IsO μ os) (hol : os.length = ls.length) (hos : ∀ k ∈ os, k < ls.length) (hnd : os.Nodup) (w1 w2 : Int32) {out : Nat} (hout : out < 64) :
    fX6_counselBy w1 w2 (nI out) μ = some (cnsl (w1 - w2) (seqL ls out os), μ) := by
  have h6 := h.1
  obtain ⟨e1, e2⟩ := X6_heardBy h hk ho hol hos hnd w1 w2 hout
  have hsub := HL_sub (w1 - w2) ls out os
  unfold fX6_counselBy
  rw [e1, bnd_s]
  have := X6_counselBy_L h ho hol hos (hsub.nodup hnd) (fun k hk => hos k (hsub.subset hk)) e2 FU 0 0 (-9) (Nat.zero_le _) (by show _ < 0 + 1000; omega) (Nat.zero_le _)
  rw [show (0 : Int32) = nI 0 from rfl, this, List.drop_zero, cnR_cnsF]
  have e3 : (fun k => (bts (HL (w1 - w2) ls out os)).testBit k) = (fun k => decide (k ∈ HL (w1 - w2) ls out os)) := by
    funext k
    rw [bts_mem]
  rw [e3, filter_sub hsub hnd]
  unfold cnsl cnsA
  rw [← HL_map, List.map_map]
  rfl
