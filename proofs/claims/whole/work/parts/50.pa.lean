/-! PURE: numbers -/
theorem lit_nI (n : Nat) : (OfNat.ofNat n : Int32) = nI n := rfl
theorem inb_nI {j n : Nat} (h : j < n) (hn : n < 2 ^ 31) : inb (nI j) n := by
  have := nI_toInt (n := j) (by omega)
  exact ⟨by omega, by omega⟩
theorem cl_nI {j : Nat} (h : j < 2 ^ 31) : (nI j).toNatClampNeg = j := nI_clamp h
theorem le_nI {a b : Nat} (ha : a < 2 ^ 31) (hb : b < 2 ^ 31) : nI a ≤ nI b ↔ a ≤ b := nI_leI ha hb
theorem lt_nI {a b : Nat} (ha : a < 2 ^ 31) (hb : b < 2 ^ 31) : nI a < nI b ↔ a < b := nI_ltI ha hb
abbrev LT : Type := Int32 × Int32 × Int32
def dL : LT := (0, 0, 0)
def lyr (ls : List LT) (j : Nat) : LT := ls.getD j dL
theorem drop_lyr {ls : List LT} {k : Nat} (h : k < ls.length) : ls.drop k = lyr ls k :: ls.drop (k + 1) := by
  rw [List.drop_eq_getElem_cons h]
  unfold lyr
  rw [List.getD_eq_getElem?_getD, List.getElem?_eq_getElem h]
  rfl
def grp (t : LT) : Int32 := if t.1 = 1 then t.2.1 + 1 else if t.1 = 2 then 2 * t.2.1 else t.2.1
def pL (W : Int32) (t : LT) : Bool := decide (grp t ≤ W)
def pR (t : LT) : Bool := decide (t.1 = 2)
def pH (W : Int32) (t : LT) : Bool := !pR t && pL W t
def hrd (W : Int32) (ls : List LT) : List LT := ls.takeWhile (pH W)
def lft (W : Int32) (ls : List LT) : List LT := ls.takeWhile (pL W)
def cnsF (g : Int32 → Nat) : List Int32 → Nat → Int32 → Int32
  | [], _, b => b
  | a :: r, m, b => if m < g a then cnsF g r (g a) a else cnsF g r m b
def cnsA (as : List Int32) : Int32 := cnsF (fun a => as.count a) as 0 (-9)
def adv (t : LT) : Int32 := t.2.2
def cnsl (W : Int32) (ts : List LT) : Int32 := cnsA ((hrd W ts).map adv)
/-- a wall of the class -/
def IsW (μ : Mem) (w : Nat) (ls : List LT) (wm dm : Int32) : Prop := ls.length ≤ 6 ∧ μ w 1 = nI ls.length ∧ μ w 2 = wm ∧ μ w 3 = dm ∧ ∀ j, j < ls.length → (μ (w + 1 + 1 + j) 0, μ (w + 1 + 1 + j) 1, μ (w + 1 + 1 + j) 2) = lyr ls j
/-- the reference's wall -/
def IsM (μ : Mem) (ls : List LT) (wm dm : Int32) : Prop := ls.length ≤ 6 ∧ μ 31 5 = nI ls.length ∧ μ 31 6 = wm ∧ μ 31 7 = dm ∧ ∀ j, j < ls.length → (μ 35 j, μ 36 j, μ 37 j) = lyr ls j
def okD (x : Int32) : Prop := ∃ h, h ≤ 9 ∧ x = nI h
def okL (t : LT) : Prop := (t.1 = 0 ∨ t.1 = 1 ∨ t.1 = 2) ∧ okD t.2.1 ∧ okD t.2.2
def okW (ls : List LT) : Prop := ∀ t ∈ ls, okL t
theorem lyr_mem {ls : List LT} {k : Nat} (h : k < ls.length) : lyr ls k ∈ ls := by
  unfold lyr
  rw [List.getD_eq_getElem?_getD, List.getElem?_eq_getElem h]
  exact List.getElem_mem h
theorem tw_len {p : LT → Bool} : ∀ (ls : List LT), (ls.takeWhile p).length ≤ ls.length
  | [] => Nat.le_refl _
  | a :: r => by
    rw [List.takeWhile_cons]
    split
    · exact Nat.succ_le_succ (tw_len r)
    · exact Nat.zero_le _
theorem hrd_len (W : Int32) (ls : List LT) : (hrd W ls).length ≤ ls.length := tw_len ls
theorem grip_eq (i : Nat) (μ : Mem) : fX0_grip i μ = some (grp (μ i 0, μ i 1, μ i 2), μ) := by
  unfold fX0_grip grp
  dsimp only
  split
  · rfl
  · split <;> rfl
/-! the class: who is heard, lifted -/
theorem X4_heardBy_L {μ : Mem} {w : Nat} {ls : List LT} {wm dm : Int32} (h : IsW μ w ls wm dm) (W : Int32) : ∀ (fuel k : Nat), k ≤ ls.length → ls.length < k + fuel → fX4_heardBy_L2 w W fuel (nI k) μ = some (nI (k + (hrd W (ls.drop k)).length), μ) := by
  obtain ⟨h6, hc, -, -, hj⟩ := h
  intro fuel
  induction fuel with
  | zero => intro k hk hf; omega
  | succ fuel ih =>
    intro k hk hf
    show sX4_heardBy_L2 (fX4_heardBy_L2 w W fuel) w W (nI k) μ = _
    unfold sX4_heardBy_L2
    rw [hc]
    by_cases hkl : ls.length ≤ k
    · rw [if_pos ((le_nI (by omega) (by omega)).mpr hkl)]
      have e : k = ls.length := by omega
      subst e
      rw [List.drop_length]
      rfl
    · have hk6 : k < 6 := by omega
      have hkl' : k < ls.length := by omega
      rw [if_neg (fun z => hkl ((le_nI (by omega) (by omega)).mp z)), if_pos (inb_nI hk6 (by omega)), cl_nI (by omega)]
      have hjk := hj k hkl'
      have h1 : μ (w + 1 + 1 + k) 0 = (lyr ls k).1 := congrArg Prod.fst hjk
      rw [drop_lyr hkl', h1]
      unfold hrd
      rw [List.takeWhile_cons]
      by_cases hr : (lyr ls k).1 = 2
      · rw [if_pos hr]
        have : pH W (lyr ls k) = false := by simp [pH, pR, hr]
        rw [this]
        rfl
      · rw [if_neg hr, if_pos (inb_nI hk6 (by omega)), grip_eq, hjk, bnd_s]
        by_cases hg : grp (lyr ls k) ≤ W
        · rw [if_pos hg]
          have : pH W (lyr ls k) = true := by simp [pH, pR, pL, hr, hg]
          rw [this]
          have ih1 := ih (k + 1) (by omega) (by omega)
          show fX4_heardBy_L2 w W fuel (nI k + 1) μ = _
          rw [nI_1, ih1]
          simp only [if_true, List.length_cons, hrd]
          congr 3
          omega
        · rw [if_neg hg]
          have : pH W (lyr ls k) = false := by simp [pH, pL, hg]
          rw [this]
          rfl
theorem X4_heardBy {μ : Mem} {w : Nat} {ls : List LT} {wm dm : Int32} (h : IsW μ w ls wm dm) (W : Int32) : fX4_heardBy w W μ = some (nI (hrd W ls).length, μ) := by
  have := X4_heardBy_L h W FU 0 (Nat.zero_le _) (by have := h.1; show _ < 0 + 1000; omega)
  rw [List.drop_zero, Nat.zero_add] at this
  exact this
theorem X4_liftedBy_L {μ : Mem} {w : Nat} {ls : List LT} {wm dm : Int32} (h : IsW μ w ls wm dm) (W : Int32) : ∀ (fuel k : Nat), k ≤ ls.length → ls.length < k + fuel → fX4_liftedBy_L2 w W fuel (nI k) μ = some (nI (k + (lft W (ls.drop k)).length), μ) := by
  obtain ⟨h6, hc, -, -, hj⟩ := h
  intro fuel
  induction fuel with
  | zero => intro k hk hf; omega
  | succ fuel ih =>
    intro k hk hf
    show sX4_liftedBy_L2 (fX4_liftedBy_L2 w W fuel) w W (nI k) μ = _
    unfold sX4_liftedBy_L2
    rw [hc]
    by_cases hkl : ls.length ≤ k
    · rw [if_pos ((le_nI (by omega) (by omega)).mpr hkl)]
      have e : k = ls.length := by omega
      subst e
      rw [List.drop_length]
      rfl
    · have hk6 : k < 6 := by omega
      have hkl' : k < ls.length := by omega
      rw [if_neg (fun z => hkl ((le_nI (by omega) (by omega)).mp z)), if_pos (inb_nI hk6 (by omega)), cl_nI (by omega)]
      have hjk := hj k hkl'
      rw [drop_lyr hkl', grip_eq, hjk, bnd_s]
      unfold lft
      rw [List.takeWhile_cons]
      by_cases hg : grp (lyr ls k) ≤ W
      · rw [if_pos hg]
        have : pL W (lyr ls k) = true := by simp [pL, hg]
        rw [this]
        have ih1 := ih (k + 1) (by omega) (by omega)
        show fX4_liftedBy_L2 w W fuel (nI k + 1) μ = _
        rw [nI_1, ih1]
        simp only [if_true, List.length_cons, lft]
        congr 3
        omega
      · rw [if_neg hg]
        have : pL W (lyr ls k) = false := by simp [pL, hg]
        rw [this]
        rfl
theorem X4_liftedBy {μ : Mem} {w : Nat} {ls : List LT} {wm dm : Int32} (h : IsW μ w ls wm dm) (W : Int32) : fX4_liftedBy w W μ = some (nI (lft W ls).length, μ) := by
  have := X4_liftedBy_L h W FU 0 (Nat.zero_le _) (by have := h.1; show _ < 0 + 1000; omega)
  rw [List.drop_zero, Nat.zero_add] at this
  exact this
/-! votes -/
def vsum (l : List Int32) : Nat := match l with
  | [] => 0
  | a :: r => 16 ^ a.toNatClampNeg + vsum r
theorem dig_add {N a v : Nat} (h : N / 16 ^ a % 16 < 15) : (N + 16 ^ a) / 16 ^ v % 16 = N / 16 ^ v % 16 + (if v = a then 1 else 0) := by
  have hp : ∀ x, 0 < 16 ^ x := fun x => Nat.pow_pos (by decide)
  rcases Nat.lt_trichotomy v a with hv | hv | hv
  · rw [if_neg (by omega)]
    obtain ⟨d, rfl⟩ : ∃ d, a = v + (d + 1) := ⟨a - v - 1, by omega⟩
    rw [Nat.pow_add, Nat.mul_comm, Nat.add_mul_div_right _ _ (hp v), Nat.pow_succ]
    omega
  · subst hv
    rw [if_pos rfl, Nat.add_div_right _ (hp v)]
    omega
  · rw [if_neg (by omega)]
    obtain ⟨d, rfl⟩ : ∃ d, v = a + (d + 1) := ⟨v - a - 1, by omega⟩
    have e : 16 ^ (a + (d + 1)) = 16 ^ a * 16 * 16 ^ d := by rw [Nat.pow_add, Nat.pow_succ, Nat.mul_assoc, Nat.mul_comm (16 ^ d) 16]
    rw [e, ← Nat.div_div_eq_div_mul, ← Nat.div_div_eq_div_mul, ← Nat.div_div_eq_div_mul, ← Nat.div_div_eq_div_mul, Nat.add_div_right _ (hp a)]
    congr 2
    omega
theorem vsum_dig : ∀ (l : List Int32) (v : Nat), l.length < 16 → (∀ a ∈ l, okD a) → v ≤ 9 → vsum l / 16 ^ v % 16 = l.count (nI v)
  | [], v, _, _, _ => by simp [vsum]
  | a :: r, v, hl, hk, hv => by
    obtain ⟨n, hn, ha⟩ := hk a List.mem_cons_self
    have hr : ∀ b ∈ r, okD b := fun b hb => hk b (List.mem_cons_of_mem _ hb)
    have hlr : r.length < 16 := by simp only [List.length_cons] at hl; omega
    have hn' := vsum_dig r n hlr hr hn
    have hv' := vsum_dig r v hlr hr hv
    have hc : r.count (nI n) ≤ r.length := List.count_le_length
    simp only [vsum, List.length_cons] at *
    rw [ha, cl_nI (by omega), Nat.add_comm, dig_add (by omega), hv', List.count_cons]
    congr 1
    by_cases e : v = n
    · subst e; simp
    · have : ¬ (nI n == nI v) = true := by
        rw [beq_iff_eq, nI_eq (by omega) (by omega)]
        omega
      simp [this, e]
theorem vsum_lt : ∀ (l : List Int32), (∀ a ∈ l, okD a) → vsum l ≤ l.length * 16 ^ 9
  | [], _ => by simp [vsum]
  | a :: r, hk => by
    obtain ⟨n, hn, ha⟩ := hk a List.mem_cons_self
    have ih := vsum_lt r (fun b hb => hk b (List.mem_cons_of_mem _ hb))
    have : 16 ^ n ≤ 16 ^ 9 := Nat.pow_le_pow_right (by decide) hn
    simp only [vsum, List.length_cons]
    rw [ha, cl_nI (by omega)]
    have e : (r.length + 1) * 16 ^ 9 = r.length * 16 ^ 9 + 16 ^ 9 := by rw [Nat.add_mul, Nat.one_mul]
    omega
theorem shl4 : ∀ n : Fin 10, (1 : Int64) <<< (((4 : Int32) * nI n.val).toInt64 &&& 63) = lN (16 ^ n.val) := by decide +kernel
theorem shr4_am : ∀ n : Fin 10, (((((4 : Int32) * nI n.val).toInt64 &&& 63 : Int64)).toBitVec.smod 64).toNat = 4 * n.val := by decide +kernel
theorem lN_i32 (n : Nat) : (lN n).toInt32 = nI n := lN_i n
theorem nI_and15 (n : Nat) : nI n &&& 15 = nI (n % 16) := by
  have h := pk_and (nI n) (m := 15) 4 (by decide)
  rw [h]
  congr 1
  show (BitVec.ofNat 32 n).toNat % 2 ^ 4 = n % 16
  rw [BitVec.toNat_ofNat]
  omega
theorem pf_lI {a : Nat} (h : a < 2 ^ 63) : (lN a).toInt = (a : Int) := lg_ofNat_toInt h
theorem pf_shr {a d : Nat} {D : Int64} (hD : (D.toBitVec.smod 64).toNat = d) (h : a < 2 ^ 62) : lN a >>> D = lN (a / 2 ^ d) := by
  have hd : a / 2 ^ d ≤ a := Nat.div_le_self _ _
  apply Int64.toInt_inj.mp
  have e : (lN a >>> D).toInt = (lN a).toInt >>> d := by
    rw [← hD]
    exact BitVec.toInt_sshiftRight ..
  rw [e, Int.shiftRight_eq_div_pow, pf_lI (by omega), pf_lI (by omega)]
  rfl
theorem X4_votesFor {n N : Nat} (hn : n ≤ 9) (hN : N < 2 ^ 62) (μ : Mem) : fX4_votesFor (nI n) (lN N) μ = some (nI (N / 16 ^ n % 16), μ) := by
  unfold fX4_votesFor
  have h1 := shr4_am ⟨n, by omega⟩
  rw [pf_shr h1 hN, lN_i32, nI_and15]
  congr 4
  show N / 2 ^ (4 * n) = N / 16 ^ n
  rw [Nat.pow_mul]
theorem lyr_take {ls : List LT} {n k : Nat} (h : k < n) : lyr (ls.take n) k = lyr ls k := by
  unfold lyr
  rw [List.getD_eq_getElem?_getD, List.getD_eq_getElem?_getD, List.getElem?_take_of_lt h]
def sl (ls : List LT) (n k : Nat) : List Int32 := ((ls.take n).drop k).map adv
theorem sl_cons {ls : List LT} {n k : Nat} (h : k < n) (hn : n ≤ ls.length) : sl ls n k = adv (lyr ls k) :: sl ls n (k + 1) := by
  unfold sl
  rw [drop_lyr (by rw [List.length_take]; omega), lyr_take h]
  rfl
theorem sl_nil {ls : List LT} {n k : Nat} (h : n ≤ k) : sl ls n k = [] := by
  unfold sl
  rw [List.drop_eq_nil_of_le (by rw [List.length_take]; omega)]
  rfl
theorem sl_len {ls : List LT} {n : Nat} (hn : n ≤ ls.length) : (sl ls n 0).length = n := by
  unfold sl
  rw [List.length_map, List.length_drop, List.length_take]
  omega
theorem sl_ok {ls : List LT} {n k : Nat} (h : okW ls) : ∀ a ∈ sl ls n k, okD a := by
  intro a ha
  unfold sl at ha
  obtain ⟨t, ht, rfl⟩ := List.mem_map.mp ha
  exact (h t (List.mem_of_mem_take (List.mem_of_mem_drop ht))).2.2
theorem X4_votesOf_L {μ : Mem} {w : Nat} {ls : List LT} {wm dm : Int32} (h : IsW μ w ls wm dm) (hk : okW ls) {n : Nat} (hn : n ≤ ls.length) : ∀ (fuel k N : Nat), k ≤ n → n < k + fuel → fX4_votesOf_L5 w (nI n) fuel (lN N) (nI k) μ = some (lN (N + vsum (sl ls n k)), μ) := by
  obtain ⟨h6, hc, -, -, hj⟩ := h
  intro fuel
  induction fuel with
  | zero => intro k N hk hf; omega
  | succ fuel ih =>
    intro k N hkn hf
    show sX4_votesOf_L5 (fX4_votesOf_L5 w (nI n) fuel) w (nI n) (lN N) (nI k) μ = _
    unfold sX4_votesOf_L5
    by_cases hkl : n ≤ k
    · rw [if_pos ((le_nI (by omega) (by omega)).mpr hkl), sl_nil hkl]
      rfl
    · have hk6 : k < 6 := by omega
      rw [if_neg (fun z => hkl ((le_nI (by omega) (by omega)).mp z)), if_pos (inb_nI hk6 (by omega)), cl_nI (by omega)]
      have h1 : μ (w + 1 + 1 + k) 2 = adv (lyr ls k) := congrArg (fun t => t.2.2) (hj k (by omega))
      obtain ⟨v, hv, e⟩ := (hk _ (lyr_mem (show k < ls.length by omega))).2.2
      have e : adv (lyr ls k) = nI v := e
      rw [sl_cons (by omega) hn, h1, e]
      have hs := shl4 ⟨v, by omega⟩
      dsimp only at hs
      rw [hs, lN_add]
      show fX4_votesOf_L5 w (nI n) fuel (lN (N + 16 ^ v)) (nI k + 1) μ = _
      rw [nI_1, ih (k + 1) (N + 16 ^ v) (by omega) (by omega)]
      simp only [vsum]
      rw [cl_nI (by omega), Nat.add_assoc]
theorem X4_votesOf {μ : Mem} {w : Nat} {ls : List LT} {wm dm : Int32} (h : IsW μ w ls wm dm) (hk : okW ls) {n : Nat} (hn : n ≤ ls.length) : fX4_votesOf w (nI n) μ = some (lN (vsum (sl ls n 0)), μ) := by
  have := X4_votesOf_L h hk hn FU 0 0 (Nat.zero_le _) (by have := h.1; show _ < 0 + 1000; omega)
  rw [Nat.zero_add] at this
  exact this
theorem vsum_small {ls : List LT} {n : Nat} (hk : okW ls) (hn : n ≤ ls.length) (h6 : ls.length ≤ 6) : vsum (sl ls n 0) < 2 ^ 62 := by
  have h1 := vsum_lt _ (sl_ok (n := n) (k := 0) hk)
  rw [sl_len hn] at h1
  have h2 : n * 16 ^ 9 ≤ 6 * 16 ^ 9 := Nat.mul_le_mul_right _ (by omega)
  have h3 : 6 * 16 ^ 9 < 2 ^ 62 := by decide
  omega
theorem X4_counselBy_L {μ : Mem} {w : Nat} {ls : List LT} {wm dm : Int32} (h : IsW μ w ls wm dm) (hk : okW ls) {n : Nat} (hn : n ≤ ls.length) : ∀ (fuel k mo : Nat) (b : Int32), k ≤ n → n < k + fuel → mo ≤ 6 → fX4_counselBy_L22 w (nI n) (lN (vsum (sl ls n 0))) fuel (nI mo) b (nI k) μ = some (cnsF (fun a => (sl ls n 0).count a) (sl ls n k) mo b, μ) := by
  have hW := h
  obtain ⟨h6, hc, -, -, hj⟩ := h
  intro fuel
  induction fuel with
  | zero => intro k mo b hk hf; omega
  | succ fuel ih =>
    intro k mo b hkn hf hm
    show sX4_counselBy_L22 (fX4_counselBy_L22 w (nI n) (lN (vsum (sl ls n 0))) fuel) w (nI n) (lN (vsum (sl ls n 0))) (nI mo) b (nI k) μ = _
    unfold sX4_counselBy_L22
    by_cases hkl : n ≤ k
    · rw [if_pos ((le_nI (by omega) (by omega)).mpr hkl), sl_nil hkl]
      rfl
    · have hk6 : k < 6 := by omega
      rw [if_neg (fun z => hkl ((le_nI (by omega) (by omega)).mp z)), if_pos (inb_nI hk6 (by omega)), cl_nI (by omega)]
      have h1 : μ (w + 1 + 1 + k) 2 = adv (lyr ls k) := congrArg (fun t => t.2.2) (hj k (by omega))
      obtain ⟨v, hv, e⟩ := (hk _ (lyr_mem (show k < ls.length by omega))).2.2
      have e : adv (lyr ls k) = nI v := e
      rw [sl_cons (k := k) (by omega) hn, h1, e, X4_votesFor hv (vsum_small hk hn h6), bnd_s]
      have hd := vsum_dig (sl ls n 0) v (by rw [sl_len hn]; omega) (sl_ok hk) hv
      rw [hd]
      have hcl : (sl ls n 0).count (nI v) ≤ 6 := by
        have := List.count_le_length (a := nI v) (l := sl ls n 0)
        rw [sl_len hn] at this
        omega
      unfold cnsF
      by_cases hg : mo < (sl ls n 0).count (nI v)
      · rw [if_neg (fun z => absurd ((le_nI (by omega) (by omega)).mp z) (by omega)), if_pos hg, if_pos (inb_nI hk6 (by omega)), h1, e]
        show fX4_counselBy_L22 w (nI n) (lN (vsum (sl ls n 0))) fuel (nI ((sl ls n 0).count (nI v))) (nI v) (nI k + 1) μ = _
        rw [nI_1, ih (k + 1) _ _ (by omega) (by omega) hcl]
      · rw [if_pos ((le_nI (by omega) (by omega)).mpr (by omega)), if_neg hg]
        show fX4_counselBy_L22 w (nI n) (lN (vsum (sl ls n 0))) fuel (nI mo) b (nI k + 1) μ = _
        rw [nI_1, ih (k + 1) _ _ (by omega) (by omega) hm]
theorem tw_take {p : LT → Bool} : ∀ (ls : List LT), ls.take (ls.takeWhile p).length = ls.takeWhile p
  | [] => rfl
  | a :: r => by
    rw [List.takeWhile_cons]
    split
    · rw [List.length_cons, List.take_succ_cons, tw_take r]
    · rfl
theorem sl_hrd (W : Int32) (ls : List LT) : sl ls (hrd W ls).length 0 = (hrd W ls).map adv := by
  unfold sl hrd
  rw [List.drop_zero, tw_take]
theorem X4_counselBy {μ : Mem} {w : Nat} {ls : List LT} {wm dm : Int32} (h : IsW μ w ls wm dm) (hk : okW ls) (W : Int32) : fX4_counselBy w W μ = some (cnsl W ls, μ) := by
  unfold fX4_counselBy
  rw [X4_heardBy h W, bnd_s, X4_votesOf h hk (hrd_len W ls), bnd_s]
  have h6 := h.1
  have hl := hrd_len W ls
  have := X4_counselBy_L h hk hl FU 0 0 (-9) (Nat.zero_le _) (by show _ < 0 + 1000; omega) (Nat.zero_le _)
  rw [show (0 : Int32) = nI 0 from rfl, this, sl_hrd]
  rfl
def mxF (g : Int32 → Nat) : List Int32 → Nat → Nat
  | [], m => m
  | a :: r, m => mxF g r (if m < g a then g a else m)
theorem X4_mostAlike_L {μ : Mem} {w : Nat} {ls : List LT} {wm dm : Int32} (h : IsW μ w ls wm dm) (hk : okW ls) {n : Nat} (hn : n ≤ ls.length) : ∀ (fuel k mo : Nat), k ≤ n → n < k + fuel → mo ≤ 6 → fX4_mostAlike_L12 w (nI n) (lN (vsum (sl ls n 0))) fuel (nI mo) (nI k) μ = some (nI (mxF (fun a => (sl ls n 0).count a) (sl ls n k) mo), μ) := by
  have hW := h
  obtain ⟨h6, hc, -, -, hj⟩ := h
  intro fuel
  induction fuel with
  | zero => intro k mo hk hf; omega
  | succ fuel ih =>
    intro k mo hkn hf hm
    show sX4_mostAlike_L12 (fX4_mostAlike_L12 w (nI n) (lN (vsum (sl ls n 0))) fuel) w (nI n) (lN (vsum (sl ls n 0))) (nI mo) (nI k) μ = _
    unfold sX4_mostAlike_L12
    by_cases hkl : n ≤ k
    · rw [if_pos ((le_nI (by omega) (by omega)).mpr hkl), sl_nil hkl]
      rfl
    · have hk6 : k < 6 := by omega
      rw [if_neg (fun z => hkl ((le_nI (by omega) (by omega)).mp z)), if_pos (inb_nI hk6 (by omega)), cl_nI (by omega)]
      have h1 : μ (w + 1 + 1 + k) 2 = adv (lyr ls k) := congrArg (fun t => t.2.2) (hj k (by omega))
      obtain ⟨v, hv, e⟩ := (hk _ (lyr_mem (show k < ls.length by omega))).2.2
      have e : adv (lyr ls k) = nI v := e
      rw [sl_cons (k := k) (by omega) hn, h1, e, X4_votesFor hv (vsum_small hk hn h6), bnd_s]
      have hd := vsum_dig (sl ls n 0) v (by rw [sl_len hn]; omega) (sl_ok hk) hv
      rw [hd]
      have hcl : (sl ls n 0).count (nI v) ≤ 6 := by
        have := List.count_le_length (a := nI v) (l := sl ls n 0)
        rw [sl_len hn] at this
        omega
      unfold mxF
      by_cases hg : mo < (sl ls n 0).count (nI v)
      · rw [if_pos ((lt_nI (by omega) (by omega)).mpr hg), if_pos hg]
        show fX4_mostAlike_L12 w (nI n) (lN (vsum (sl ls n 0))) fuel (nI ((sl ls n 0).count (nI v))) (nI k + 1) μ = _
        rw [nI_1, ih (k + 1) _ (by omega) (by omega) hcl]
      · rw [if_neg (fun z => hg ((lt_nI (by omega) (by omega)).mp z)), if_neg hg]
        show fX4_mostAlike_L12 w (nI n) (lN (vsum (sl ls n 0))) fuel (nI mo) (nI k + 1) μ = _
        rw [nI_1, ih (k + 1) _ (by omega) (by omega) hm]
theorem X4_mostAlike {μ : Mem} {w : Nat} {ls : List LT} {wm dm : Int32} (h : IsW μ w ls wm dm) (hk : okW ls) {n : Nat} (hn : n ≤ ls.length) : fX4_mostAlike w (nI n) μ = some (nI (mxF (fun a => (sl ls n 0).count a) (sl ls n 0) 0), μ) := by
  unfold fX4_mostAlike
  rw [X4_votesOf h hk hn, bnd_s]
  have h6 := h.1
  exact X4_mostAlike_L h hk hn FU 0 0 (Nat.zero_le _) (by show _ < 0 + 1000; omega) (Nat.zero_le _)
def prs : List Int32 → Nat
  | [] => 0
  | a :: r => r.countP (fun b => !(b == a)) + prs r
theorem X4_unlike_in {μ : Mem} {w : Nat} {ls : List LT} {wm dm : Int32} (h : IsW μ w ls wm dm) {n : Nat} (hn : n ≤ ls.length) (K4 : Int32 → Int32 → Mem → Option (Int32 × Mem)) {k : Nat} (hk : k < n) : ∀ (fuel o tw : Nat), o ≤ n → n < o + fuel → fX4_unlikeTwos_L14 K4 w (nI n) (nI k) fuel (nI tw) (nI o) μ = K4 (nI (tw + (sl ls n o).countP (fun b => !(b == adv (lyr ls k))))) (nI (k + 1)) μ := by
  obtain ⟨h6, hc, -, -, hj⟩ := h
  intro fuel
  induction fuel with
  | zero => intro o tw h1 h2; omega
  | succ fuel ih =>
    intro o tw h1 h2
    show sX4_unlikeTwos_L14 K4 (fX4_unlikeTwos_L14 K4 w (nI n) (nI k) fuel) w (nI n) (nI k) (nI tw) (nI o) μ = _
    unfold sX4_unlikeTwos_L14
    by_cases hkl : n ≤ o
    · rw [if_pos ((le_nI (by omega) (by omega)).mpr hkl), sl_nil hkl]
      show K4 (nI tw) (nI k + 1) μ = _
      rw [nI_1]
      rfl
    · rw [if_neg (fun z => hkl ((le_nI (by omega) (by omega)).mp z)), if_pos (inb_nI (by omega) (by omega)), if_pos (inb_nI (by omega) (by omega)), cl_nI (by omega), cl_nI (by omega)]
      have e1 : μ (w + 1 + 1 + o) 2 = adv (lyr ls o) := congrArg (fun t => t.2.2) (hj o (by omega))
      have e2 : μ (w + 1 + 1 + k) 2 = adv (lyr ls k) := congrArg (fun t => t.2.2) (hj k (by omega))
      rw [e1, e2, sl_cons (k := o) (by omega) hn, List.countP_cons]
      by_cases he : adv (lyr ls o) = adv (lyr ls k)
      · rw [if_pos he]
        show fX4_unlikeTwos_L14 K4 w (nI n) (nI k) fuel (nI tw) (nI o + 1) μ = _
        rw [nI_1, ih (o + 1) tw (by omega) (by omega)]
        simp [he]
      · rw [if_neg he]
        show fX4_unlikeTwos_L14 K4 w (nI n) (nI k) fuel (nI tw + 1) (nI o + 1) μ = _
        rw [nI_1, nI_1, ih (o + 1) (tw + 1) (by omega) (by omega)]
        have : (!(adv (lyr ls o) == adv (lyr ls k))) = true := by simp [he]
        rw [if_pos this]
        congr 2
        omega
theorem X4_unlike_L {μ : Mem} {w : Nat} {ls : List LT} {wm dm : Int32} (h : IsW μ w ls wm dm) {n : Nat} (hn : n ≤ ls.length) : ∀ (fuel k tw : Nat), k ≤ n → n < k + fuel → fX4_unlikeTwos_L4 w (nI n) fuel (nI tw) (nI k) μ = some (nI (tw + prs (sl ls n k)), μ) := by
  have h6 := h.1
  intro fuel
  induction fuel with
  | zero => intro k tw h1 h2; omega
  | succ fuel ih =>
    intro k tw h1 h2
    show sX4_unlikeTwos_L4 (fX4_unlikeTwos_L4 w (nI n) fuel) w (nI n) (nI tw) (nI k) μ = _
    unfold sX4_unlikeTwos_L4
    by_cases hkl : n ≤ k
    · rw [if_pos ((le_nI (by omega) (by omega)).mpr hkl), sl_nil hkl]
      rfl
    · rw [if_neg (fun z => hkl ((le_nI (by omega) (by omega)).mp z))]
      show fX4_unlikeTwos_L14 (fX4_unlikeTwos_L4 w (nI n) fuel) w (nI n) (nI k) FU (nI tw) (nI k + 1) μ = _
      rw [nI_1, X4_unlike_in h hn _ (by omega) FU (k + 1) tw (by omega) (by show _ < _ + 1000; omega), ih (k + 1) _ (by omega) (by omega), sl_cons (k := k) (by omega) hn]
      simp only [prs]
      congr 3
      omega
theorem X4_unlikeTwos {μ : Mem} {w : Nat} {ls : List LT} {wm dm : Int32} (h : IsW μ w ls wm dm) {n : Nat} (hn : n ≤ ls.length) : fX4_unlikeTwos w (nI n) μ = some (nI (prs (sl ls n 0)), μ) := by
  have h6 := h.1
  have := X4_unlike_L h hn FU 0 0 (Nat.zero_le _) (by show _ < 0 + 1000; omega)
  rw [Nat.zero_add] at this
  exact this
