/-! PURE: trial walls; rows of readings -/
theorem oe_s {β : Type} (i : Nat) (A : β) (B : Nat → β) : (some i).elim A B = B i := rfl
theorem oe_n {β : Type} (A : β) (B : Nat → β) : (none : Option Nat).elim A B = A := rfl
theorem and_bit : ∀ (S : Fin 64) (j : Fin 6), ((nI S.val &&& ((1 : Int32) <<< (nI j.val &&& 31))) = 0) ↔ S.val.testBit j.val = false := by decide +kernel
theorem IsW.fr {μ μ' : Mem} {w : Nat} {ls : List LT} {wm dm : Int32} (h : IsW μ w ls wm dm) (hf : ∀ i, w ≤ i → i < w + 8 → μ' i = μ i) : IsW μ' w ls wm dm := by
  obtain ⟨h6, h1, h2, h3, hj⟩ := h
  refine ⟨h6, ?_, ?_, ?_, fun j hl => ?_⟩
  · rw [hf w (by omega) (by omega)]; exact h1
  · rw [hf w (by omega) (by omega)]; exact h2
  · rw [hf w (by omega) (by omega)]; exact h3
  · rw [hf (w + 1 + 1 + j) (by omega) (by omega)]; exact hj j hl
def rgL (ls : List LT) (out k m : Nat) : List LT := ((List.range' k m).filter (fun j => !out.testBit j)).map (lyr ls)
theorem rgL_succ (ls : List LT) (out k m : Nat) : rgL ls out k (m + 1) = (if out.testBit k then rgL ls out (k + 1) m else lyr ls k :: rgL ls out (k + 1) m) := by
  unfold rgL
  rw [List.range'_succ, List.filter_cons]
  by_cases h : out.testBit k = true
  · rw [if_pos h, if_neg (by simp [h])]
  · have e : (!out.testBit k) = true := by simp [h]
    rw [if_neg h, if_pos e, List.map_cons]
theorem X4_less_L {ls : List LT} {wm dm : Int32} {out : Nat} (hout : out < 64) : ∀ (fuel k m : Nat) (acc : List LT) (μ : Mem), k + m = ls.length → m < fuel → acc.length ≤ k → IsW μ 1 ls wm dm → IsW μ 9 acc wm dm →
    ∃ μ', fX4_becomeLess_L14 9 1 (nI out) fuel (nI k) μ = some ((), μ') ∧ IsW μ' 9 (acc ++ rgL ls out k m) wm dm ∧ FrW μ μ' 9 := by
  intro fuel
  induction fuel with
  | zero => intro k m acc μ h1 h2; omega
  | succ fuel ih =>
    intro k m acc μ hkm hf hacc hO hT
    have hO' := hO
    obtain ⟨h6, hc, -, -, hj⟩ := hO
    show ∃ μ', sX4_becomeLess_L14 (fX4_becomeLess_L14 9 1 (nI out) fuel) 9 1 (nI out) (nI k) μ = some ((), μ') ∧ _
    unfold sX4_becomeLess_L14
    rw [hc]
    cases m with
    | zero =>
      rw [if_pos ((le_nI (by omega) (by omega)).mpr (by omega))]
      refine ⟨μ, rfl, ?_, FrW.rf⟩
      have e : acc ++ rgL ls out k 0 = acc := List.append_nil _
      rw [e]; exact hT
    | succ m =>
      rw [if_neg (fun z => absurd ((le_nI (by omega) (by omega)).mp z) (by omega)), rgL_succ]
      have hb := and_bit ⟨out, hout⟩ ⟨k, by omega⟩
      by_cases hbit : out.testBit k = true
      · rw [if_neg (fun z => by have := hb.mp z; simp [hbit] at this), if_pos hbit]
        show ∃ μ', fX4_becomeLess_L14 9 1 (nI out) fuel (nI k + 1) μ = _ ∧ _
        rw [nI_1]
        exact ih (k + 1) m acc μ (by omega) (by omega) (by omega) hO' hT
      · have hbf : out.testBit k = false := by simpa using hbit
        rw [if_pos (hb.mpr hbf), if_neg hbit, X4_layerAt hO' (by omega), bnd_s]
        rw [oe_s]
        have hjk := hj k (by omega)
        obtain ⟨μ1, e1, e2, e3⟩ := X4_addBelow hT (lyr ls k) (by omega)
        have ea : fX4_addLike 9 (1 + 1 + 1 + k) μ = some ((), μ1) := by
          unfold fX4_addLike
          have q0 : μ (1 + 1 + 1 + k) 0 = (lyr ls k).1 := congrArg Prod.fst hjk
          have q1 : μ (1 + 1 + 1 + k) 1 = (lyr ls k).2.1 := congrArg (fun t => t.2.1) hjk
          have q2 : μ (1 + 1 + 1 + k) 2 = (lyr ls k).2.2 := congrArg (fun t => t.2.2) hjk
          rw [q0, q1, q2, e1, bnd_s]
        rw [ea, bnd_s]
        show ∃ μ', fX4_becomeLess_L14 9 1 (nI out) fuel (nI k + 1) μ1 = _ ∧ _
        rw [nI_1]
        obtain ⟨μ', f1, f2, f3⟩ := ih (k + 1) m (acc ++ [lyr ls k]) μ1 (by omega) (by omega) (by simp; omega) (hO'.fr (fun i h1 h2 => e3 i (by omega))) e2
        refine ⟨μ', f1, ?_, e3.tr f3⟩
        rw [List.append_assoc] at f2
        exact f2
theorem X4_becomeLess {μ : Mem} {ls : List LT} {wm dm : Int32} {out : Nat} (hout : out < 64) (h : IsW μ 1 ls wm dm) : ∃ μ', fX4_becomeLess 9 1 (nI out) μ = some ((), μ') ∧ IsW μ' 9 (seqL ls out (List.range ls.length)) wm dm ∧ FrW μ μ' 9 := by
  have h6 := h.1
  unfold fX4_becomeLess
  obtain ⟨μ1, e1, e2, e3⟩ := X4_begin 9 (μ 1 2) (μ 1 3) μ
  rw [e1, bnd_s]
  have hO : IsW μ1 1 ls wm dm := h.fr (fun i h1 h2 => e3 i (by omega))
  rw [h.2.2.1, h.2.2.2.1] at e2
  obtain ⟨μ', f1, f2, f3⟩ := X4_less_L hout FU 0 ls.length [] μ1 (by omega) (by show _ < 1000; omega) (Nat.le_refl _) hO e2
  refine ⟨μ', f1, ?_, e3.tr f3⟩
  rw [List.nil_append] at f2
  unfold seqL
  rw [List.range_eq_range']
  exact f2
theorem seqL0 (ls : List LT) (os : List Nat) : seqL ls 0 os = os.map (lyr ls) := by
  unfold seqL
  rw [List.filter_eq_self.mpr (fun k _ => by simp)]
theorem range_lyr (ls : List LT) : (List.range ls.length).map (lyr ls) = ls := by
  apply List.ext_getElem?
  intro j
  rw [List.getElem?_map]
  by_cases h : j < ls.length
  · rw [List.getElem?_range h, List.getElem?_eq_getElem h]
    show some (lyr ls j) = _
    unfold lyr
    rw [List.getD_eq_getElem?_getD, List.getElem?_eq_getElem h]
    rfl
  · rw [List.getElem?_eq_none (by rw [List.length_range]; omega), List.getElem?_eq_none (by omega)]
    rfl
theorem X4_become {μ : Mem} {ls : List LT} {wm dm : Int32} (h : IsW μ 1 ls wm dm) : ∃ μ', fX4_become 9 1 μ = some ((), μ') ∧ IsW μ' 9 ls wm dm ∧ FrW μ μ' 9 := by
  obtain ⟨μ', e1, e2, e3⟩ := X4_becomeLess (out := 0) (by decide) h
  rw [seqL0, range_lyr] at e2
  refine ⟨μ', ?_, e2, e3⟩
  unfold fX4_become
  rw [show (0 : Int32) = nI 0 from rfl, e1, bnd_s]
/-- the class's row of layers -/
def IsR (μ : Mem) (os : List Nat) : Prop := os.length ≤ 6 ∧ μ 20 1 = nI os.length ∧ ∀ q, q < os.length → μ 21 q = nI (os.getD q 0)
theorem X1_layerIn {μ : Mem} {os : List Nat} (h : IsR μ os) {q : Nat} (hq : q < os.length) : fX1_layerIn (nI q) μ = some (nI (os.getD q 0), μ) := by
  obtain ⟨h6, hc, hj⟩ := h
  unfold fX1_layerIn
  rw [hc, if_neg (show ¬ nI q < 0 from fun z => absurd ((lt_nI (b := 0) (by omega) (by omega)).mp z) (by omega)), if_neg (fun z => absurd ((le_nI (by omega) (by omega)).mp z) (by omega)), if_pos (inb_nI (by omega) (by omega)), cl_nI (by omega), hj q hq]
theorem X4_ord_L {ls : List LT} {wm dm : Int32} {os : List Nat} (hol : os.length = ls.length) (hos : ∀ k ∈ os, k < ls.length) : ∀ (fuel q : Nat) (acc : List LT) (μ : Mem), q ≤ os.length → os.length < q + fuel → acc.length = q → IsW μ 1 ls wm dm → IsR μ os → IsW μ 9 acc wm dm →
    ∃ μ', fX4_becomeOrdered_L14 9 1 fuel (nI q) μ = some ((), μ') ∧ IsW μ' 9 (acc ++ (os.drop q).map (lyr ls)) wm dm ∧ FrW μ μ' 9 := by
  intro fuel
  induction fuel with
  | zero => intro q acc μ h1 h2; omega
  | succ fuel ih =>
    intro q acc μ hq hf hacc hO hR hT
    have hO' := hO
    obtain ⟨h6, hc, -, -, hj⟩ := hO
    show ∃ μ', sX4_becomeOrdered_L14 (fX4_becomeOrdered_L14 9 1 fuel) 9 1 (nI q) μ = some ((), μ') ∧ _
    unfold sX4_becomeOrdered_L14
    rw [hc]
    by_cases hqe : os.length ≤ q
    · rw [if_pos ((le_nI (by omega) (by omega)).mpr (by omega)), List.drop_eq_nil_of_le hqe]
      refine ⟨μ, rfl, ?_, FrW.rf⟩
      rw [List.map_nil, List.append_nil]; exact hT
    · have hql : q < os.length := by omega
      have hkl := hos _ (getD_mem hql)
      rw [if_neg (fun z => absurd ((le_nI (by omega) (by omega)).mp z) (by omega)), X1_layerIn hR hql, bnd_s, X4_layerAt hO' hkl, bnd_s]
      rw [oe_s]
      have hjk := hj _ hkl
      obtain ⟨μ1, e1, e2, e3⟩ := X4_addBelow hT (lyr ls (os.getD q 0)) (by omega)
      have ea : fX4_addLike 9 (1 + 1 + 1 + os.getD q 0) μ = some ((), μ1) := by
        unfold fX4_addLike
        have q0 : μ (1 + 1 + 1 + os.getD q 0) 0 = (lyr ls (os.getD q 0)).1 := congrArg Prod.fst hjk
        have q1 : μ (1 + 1 + 1 + os.getD q 0) 1 = (lyr ls (os.getD q 0)).2.1 := congrArg (fun t => t.2.1) hjk
        have q2 : μ (1 + 1 + 1 + os.getD q 0) 2 = (lyr ls (os.getD q 0)).2.2 := congrArg (fun t => t.2.2) hjk
        rw [q0, q1, q2, e1, bnd_s]
      rw [ea, bnd_s]
      show ∃ μ', fX4_becomeOrdered_L14 9 1 fuel (nI q + 1) μ1 = _ ∧ _
      rw [nI_1]
      have hR1 : IsR μ1 os := ⟨hR.1, by rw [e3 20 (by omega)]; exact hR.2.1, fun q hq => by rw [e3 21 (by omega)]; exact hR.2.2 q hq⟩
      obtain ⟨μ', f1, f2, f3⟩ := ih (q + 1) (acc ++ [lyr ls (os.getD q 0)]) μ1 (by omega) (by omega) (by simp; omega) (hO'.fr (fun i h1 h2 => e3 i (by omega))) hR1 e2
      refine ⟨μ', f1, ?_, e3.tr f3⟩
      rw [drop_nat hql, List.map_cons]
      rw [List.append_assoc] at f2
      exact f2
theorem X4_becomeOrdered {μ : Mem} {ls : List LT} {wm dm : Int32} {os : List Nat} (h : IsW μ 1 ls wm dm) (hR : IsR μ os) (hol : os.length = ls.length) (hos : ∀ k ∈ os, k < ls.length) : ∃ μ', fX4_becomeOrdered 9 1 μ = some ((), μ') ∧ IsW μ' 9 (os.map (lyr ls)) wm dm ∧ FrW μ μ' 9 := by
  have h6 := h.1
  unfold fX4_becomeOrdered
  obtain ⟨μ1, e1, e2, e3⟩ := X4_begin 9 (μ 1 2) (μ 1 3) μ
  rw [e1, bnd_s]
  have hO : IsW μ1 1 ls wm dm := h.fr (fun i h1 h2 => e3 i (by omega))
  rw [h.2.2.1, h.2.2.2.1] at e2
  have hR1 : IsR μ1 os := ⟨hR.1, by rw [e3 20 (by omega)]; exact hR.2.1, fun q hq => by rw [e3 21 (by omega)]; exact hR.2.2 q hq⟩
  obtain ⟨μ', f1, f2, f3⟩ := X4_ord_L hol hos FU 0 [] μ1 (Nat.zero_le _) (by show _ < 0 + 1000; omega) rfl hO hR1 e2
  refine ⟨μ', f1, ?_, e3.tr f3⟩
  rw [List.nil_append, List.drop_zero] at f2
  exact f2
def setK (ls : List LT) (k : Nat) (v : Int32) : List LT := ls.set k (v, (lyr ls k).2.1, (lyr ls k).2.2)
def setH (ls : List LT) (k : Nat) (v : Int32) : List LT := ls.set k ((lyr ls k).1, v, (lyr ls k).2.2)
def setA (ls : List LT) (k : Nat) (v : Int32) : List LT := ls.set k ((lyr ls k).1, (lyr ls k).2.1, v)
theorem lyr_set {ls : List LT} {k j : Nat} {t : LT} (hk : k < ls.length) : lyr (ls.set k t) j = if j = k then t else lyr ls j := by
  unfold lyr
  rw [List.getD_eq_getElem?_getD, List.getD_eq_getElem?_getD]
  by_cases h : j = k
  · subst h; rw [List.getElem?_set_self hk, if_pos rfl]; rfl
  · rw [List.getElem?_set_ne (Ne.symm h), if_neg h]
theorem IsW.set3 {μ : Mem} {w : Nat} {ls : List LT} {wm dm : Int32} (h : IsW μ w ls wm dm) {k : Nat} (hk : k < ls.length) {f : Nat} (hf : f < 3) (v : Int32) {t : LT} (ht : t = (if f = 0 then v else (lyr ls k).1, if f = 1 then v else (lyr ls k).2.1, if f = 2 then v else (lyr ls k).2.2)) : IsW (up2 μ (w + 1 + 1 + k) f v) w (ls.set k t) wm dm ∧ FrW μ (up2 μ (w + 1 + 1 + k) f v) w := by
  obtain ⟨h6, h1, h2, h3, hj⟩ := h
  refine ⟨⟨by rw [List.length_set]; exact h6, ?_, ?_, ?_, fun j hl => ?_⟩, fun i hi => up2_n _ _ _ (by omega)⟩
  · rw [up2_n _ _ _ (by omega), List.length_set]; exact h1
  · rw [up2_n _ _ _ (by omega)]; exact h2
  · rw [up2_n _ _ _ (by omega)]; exact h3
  · rw [List.length_set] at hl
    rw [lyr_set hk]
    by_cases hjk : j = k
    · subst hjk
      have q := hj j hk
      rw [if_pos rfl, ht, ← q]
      have : f = 0 ∨ f = 1 ∨ f = 2 := by omega
      rcases this with rfl | rfl | rfl <;> simp [up2_ap]
    · rw [if_neg hjk, up2_n _ _ _ (by omega)]
      exact hj j hl
theorem X4_change {μ : Mem} {ls : List LT} {wm dm : Int32} (h : IsW μ 9 ls wm dm) {k : Nat} (hk : k < ls.length) (v : Int32) :
    (∃ μ', fX4_change 9 (nI k) 0 v μ = some ((), μ') ∧ IsW μ' 9 (setK ls k v) wm dm ∧ FrW μ μ' 9) ∧ (∃ μ', fX4_change 9 (nI k) 1 v μ = some ((), μ') ∧ IsW μ' 9 (setH ls k v) wm dm ∧ FrW μ μ' 9) ∧ (∃ μ', fX4_change 9 (nI k) 2 v μ = some ((), μ') ∧ IsW μ' 9 (setA ls k v) wm dm ∧ FrW μ μ' 9) := by
  unfold fX4_change
  rw [X4_layerAt h hk]
  simp only [bnd_s, Option.elim]
  refine ⟨⟨_, rfl, h.set3 hk (f := 0) (by decide) v rfl⟩, ⟨_, rfl, h.set3 hk (f := 1) (by decide) v rfl⟩, ⟨_, rfl, h.set3 hk (f := 2) (by decide) v rfl⟩⟩
/-! readings -/
abbrev RT : Type := Int32 × Int32
def rdg (rs : List RT) (j : Nat) : RT := rs.getD j (0, 0)
def IsRd (μ : Mem) (rs : List RT) : Prop := rs.length ≤ 8 ∧ μ 17 2 = nI rs.length ∧ ∀ j, j < rs.length → (μ 18 j, μ 19 j) = rdg rs j
def IsRm (μ : Mem) (rs : List RT) : Prop := rs.length ≤ 8 ∧ μ 31 22 = nI rs.length ∧ ∀ j, j < rs.length → (μ 41 j - μ 42 j, μ 43 j) = rdg rs j
def agr (rs : List RT) (ts : List LT) : Bool := rs.all (fun q => cnsl q.1 ts == q.2)
def zo (b : Bool) : Int32 := if b then 1 else 0
theorem drop_rdg {rs : List RT} {k : Nat} (h : k < rs.length) : rs.drop k = rdg rs k :: rs.drop (k + 1) := by
  rw [List.drop_eq_getElem_cons h]
  unfold rdg
  rw [List.getD_eq_getElem?_getD, List.getElem?_eq_getElem h]
  rfl
theorem X2_agree_L {μ : Mem} {w : Nat} {ls : List LT} {wm dm : Int32} (h : IsW μ w ls wm dm) (hk : okW ls) {rs : List RT} (hr : IsRd μ rs) : ∀ (fuel k : Nat), k ≤ rs.length → rs.length < k + fuel → fX2_agreeWith_L2 w fuel (nI k) μ = some (zo (agr (rs.drop k) ls), μ) := by
  obtain ⟨h8, hc, hj⟩ := hr
  intro fuel
  induction fuel with
  | zero => intro k h1 h2; omega
  | succ fuel ih =>
    intro k h1 h2
    show sX2_agreeWith_L2 (fX2_agreeWith_L2 w fuel) w (nI k) μ = _
    unfold sX2_agreeWith_L2
    rw [hc]
    by_cases hkl : rs.length ≤ k
    · rw [if_pos ((le_nI (by omega) (by omega)).mpr hkl), List.drop_eq_nil_of_le hkl]
      rfl
    · have hi : inb (nI k) 8 := inb_nI (by omega) (by omega)
      rw [if_neg (fun z => hkl ((le_nI (by omega) (by omega)).mp z)), if_pos hi, cl_nI (by omega), X4_counselBy h hk, bnd_s, if_pos hi]
      have q1 : μ 18 k = (rdg rs k).1 := congrArg Prod.fst (hj k (by omega))
      have q2 : μ 19 k = (rdg rs k).2 := congrArg Prod.snd (hj k (by omega))
      rw [q1, q2, drop_rdg (by omega)]
      unfold agr
      rw [List.all_cons]
      by_cases he : cnsl (rdg rs k).1 ls = (rdg rs k).2
      · rw [if_pos he]
        show fX2_agreeWith_L2 w fuel (nI k + 1) μ = _
        rw [nI_1, ih (k + 1) (by omega) (by omega)]
        simp [he, agr]
      · rw [if_neg he]
        simp [he, zo]
theorem X2_agreeWith {μ : Mem} {w : Nat} {ls : List LT} {wm dm : Int32} (h : IsW μ w ls wm dm) (hk : okW ls) {rs : List RT} (hr : IsRd μ rs) : fX2_agreeWith w μ = some (zo (agr rs ls), μ) := by
  have h8 := hr.1
  have := X2_agree_L h hk hr FU 0 (Nat.zero_le _) (by show _ < 0 + 1000; omega)
  rw [List.drop_zero] at this
  exact this
theorem X6_areSo_L {μ : Mem} {ls : List LT} {wm dm : Int32} (h : IsM μ ls wm dm) (hk : okW ls) {os : List Nat} (ho : IsO μ os) (hol : os.length = ls.length) (hos : ∀ k ∈ os, k < ls.length) (hnd : os.Nodup) {rs : List RT} (hr : IsRm μ rs) : ∀ (fuel k : Nat), k ≤ rs.length → rs.length < k + fuel → fX6_areSo_L2 fuel (nI k) μ = some (zo (agr (rs.drop k) (os.map (lyr ls))), μ) := by
  obtain ⟨h8, hc, hj⟩ := hr
  intro fuel
  induction fuel with
  | zero => intro k h1 h2; omega
  | succ fuel ih =>
    intro k h1 h2
    show sX6_areSo_L2 (fX6_areSo_L2 fuel) (nI k) μ = _
    unfold sX6_areSo_L2
    rw [hc]
    by_cases hkl : rs.length ≤ k
    · rw [if_pos ((le_nI (by omega) (by omega)).mpr hkl), List.drop_eq_nil_of_le hkl]
      rfl
    · have hi : inb (nI k) 8 := inb_nI (by omega) (by omega)
      rw [if_neg (fun z => hkl ((le_nI (by omega) (by omega)).mp z)), if_pos hi, if_pos hi, cl_nI (by omega)]
      have hcb := X6_counselBy h hk ho hol hos hnd (μ 41 k) (μ 42 k) (out := 0) (by decide)
      rw [seqL0] at hcb
      have q1 : μ 41 k - μ 42 k = (rdg rs k).1 := congrArg Prod.fst (hj k (by omega))
      have q2 : μ 43 k = (rdg rs k).2 := congrArg Prod.snd (hj k (by omega))
      rw [show (0 : Int32) = nI 0 from rfl, hcb, bnd_s, if_pos hi, q1, q2, drop_rdg (by omega)]
      unfold agr
      rw [List.all_cons]
      by_cases he : cnsl (rdg rs k).1 (os.map (lyr ls)) = (rdg rs k).2
      · rw [if_pos he]
        show fX6_areSo_L2 fuel (nI k + 1) μ = _
        rw [nI_1, ih (k + 1) (by omega) (by omega)]
        simp [he, agr]
      · rw [if_neg he]
        simp [he, zo]
        rfl
theorem X6_areSo {μ : Mem} {ls : List LT} {wm dm : Int32} (h : IsM μ ls wm dm) (hk : okW ls) {os : List Nat} (ho : IsO μ os) (hol : os.length = ls.length) (hos : ∀ k ∈ os, k < ls.length) (hnd : os.Nodup) {rs : List RT} (hr : IsRm μ rs) : fX6_areSo μ = some (zo (agr rs (os.map (lyr ls))), μ) := by
  have h8 := hr.1
  have := X6_areSo_L h hk ho hol hos hnd hr FU 0 (Nat.zero_le _) (by show _ < 0 + 1000; omega)
  rw [List.drop_zero] at this
  exact this
