/-! PURE: orders, the loops and the call -/
theorem fct_le : ∀ n : Fin 7, fct n.val ≤ 720 := by decide +kernel
theorem X6_pick_L {T pl n m e : Nat} (hT : T < 64) (hpl : pl + m + 1 = n) (hn : n ≤ 6) (he : e < 2 ^ 31) (K18 : Int32 → Int32 → Int32 → Int32 → Mem → Option (Unit × Mem)) (x2 : Int32) {μ : Mem} (h5 : μ 31 5 = nI n) :
    ∀ (f fuel w v r : Nat), pkF T f w v = some r → v + f ≤ 6 → w < 2 ^ 31 → f < fuel → fX6_orderBy_L39 K18 x2 (nI e) (nI T) (nI pl) fuel (nI w) (nI v) μ = K18 x2 (nI (if m ≤ 1 then 1 else e / m)) (nI (T ||| 2 ^ r)) (nI (pl + 1)) (up2 μ 39 pl (nI r)) ∧ r < 6 := by
  intro f
  induction f with
  | zero => intro fuel w v r h; exact absurd h (by simp [pkF])
  | succ f ih =>
    intro fuel w v r h hv hw hf
    obtain ⟨fuel, rfl⟩ : ∃ f, fuel = f + 1 := ⟨fuel - 1, by omega⟩
    show sX6_orderBy_L39 K18 (fX6_orderBy_L39 K18 x2 (nI e) (nI T) (nI pl) fuel) x2 (nI e) (nI T) (nI pl) (nI w) (nI v) μ = _ ∧ _
    unfold sX6_orderBy_L39
    unfold pkF at h
    rw [X6_isOf hT (by omega), bnd_s]
    by_cases hb : T.testBit v = true
    · rw [if_pos hb] at h ⊢
      rw [if_neg (by decide), X6_isOf hT (by omega), bnd_s, if_pos hb, if_neg (by decide), lti_e, lti_e, nI_1, show nI w - (0 : Int32) = nI w from pk_sub (b := 0) (by omega)]
      exact ih fuel w (v + 1) r h (by omega) hw (by omega)
    · rw [if_neg hb] at h ⊢
      rw [if_pos rfl]
      by_cases hw0 : w = 0
      · rw [if_pos hw0] at h
        have hr : v = r := by simpa using h
        subst hr
        have oo := of_or ⟨T, hT⟩ ⟨v, by omega⟩
        dsimp only at oo
        rw [if_pos (show nI w ≤ 0 from (le_nI (b := 0) (by omega) (by omega)).mpr (by omega)), if_pos (inb_nI (by omega) (by omega)), ltm_e, lti_e, cl_nI (by omega), oo.1, up2_n _ _ _ (show 31 ≠ 39 by decide), h5, pk_sub (by omega), sub1 (by omega), show n - pl - 1 = m by omega, lti_e, nI_1, lti_e]
        refine ⟨?_, by omega⟩
        by_cases hm : m ≤ 1
        · rw [if_pos (show nI m ≤ 1 from (le_nI (b := 1) (by omega) (by omega)).mpr hm), if_pos hm]
          rfl
        · rw [if_neg (show ¬ nI m ≤ 1 from fun z => hm ((le_nI (b := 1) (by omega) (by omega)).mp z)), if_pos (fun z => hm (by have := (zero_iff (by omega)).mp z; omega)), lti_e, pk_div he (by omega) (by omega), if_neg hm]
      · rw [if_neg hw0] at h
        rw [if_neg (show ¬ nI w ≤ 0 from fun z => hw0 (by have := (le_nI (b := 0) (by omega) (by omega)).mp z; omega)), X6_isOf hT (by omega), bnd_s, if_neg hb, if_pos rfl, lti_e, lti_e, nI_1, sub1 (by omega)]
        exact ih fuel (w - 1) (v + 1) r h (by omega) (by omega) (by omega)
theorem X6_ob_L {n : Nat} (hn : n ≤ 6) : ∀ (m fuel k e T pl : Nat) (μ : Mem) (r : List Nat), unr m k e T = some r → pl + m = n → m < fuel → T < 64 → k < 2 ^ 31 → e < 2 ^ 31 → μ 31 5 = nI n →
    ∃ μ', fX6_orderBy_L18 fuel (nI k) (nI e) (nI T) (nI pl) μ = some ((), μ') ∧ (∀ j, j < pl → μ' 39 j = μ 39 j) ∧ (∀ j, j < m → μ' 39 (pl + j) = nI (r.getD j 0)) ∧ ∀ i, i ≠ 39 → μ' i = μ i := by
  intro m
  induction m with
  | zero =>
    intro fuel k e T pl μ r h hpl hf hT hk he h5
    obtain ⟨fuel, rfl⟩ : ∃ f, fuel = f + 1 := ⟨fuel - 1, by omega⟩
    refine ⟨μ, ?_, fun _ _ => rfl, fun j hj => absurd hj (by omega), fun _ _ => rfl⟩
    show sX6_orderBy_L18 (fX6_orderBy_L18 fuel) (nI k) (nI e) (nI T) (nI pl) μ = _
    unfold sX6_orderBy_L18
    rw [h5, if_pos ((le_nI (by omega) (by omega)).mpr (by omega))]
  | succ m ih =>
    intro fuel k e T pl μ r h hpl hf hT hk he h5
    obtain ⟨fuel, rfl⟩ : ∃ f, fuel = f + 1 := ⟨fuel - 1, by omega⟩
    show ∃ μ', sX6_orderBy_L18 (fX6_orderBy_L18 fuel) (nI k) (nI e) (nI T) (nI pl) μ = _ ∧ _
    unfold sX6_orderBy_L18
    unfold unr at h
    by_cases he0 : e = 0
    · rw [if_pos he0] at h; exact absurd h (by simp)
    · rw [if_neg he0] at h
      have ne : ¬ nI e = 0 := fun z => he0 ((zero_iff he).mp z)
      cases hp : pkF T 6 (k / e) 0 with
      | none => rw [hp] at h; exact absurd h (by simp)
      | some v =>
        rw [hp] at h
        dsimp only at h
        cases hu : unr m (k % e) (if m ≤ 1 then 1 else e / m) (T ||| 2 ^ v) with
        | none => rw [hu] at h; exact absurd h (by simp)
        | some r' =>
          rw [hu] at h
          have hr : r = v :: r' := by simpa using h.symm
          have hkd : k / e ≤ k := Nat.div_le_self _ _
          have hem : (if m ≤ 1 then 1 else e / m) < 2 ^ 31 := by
            have := Nat.div_le_self e m
            split <;> omega
          have hkm : k % e < e := Nat.mod_lt _ (by omega)
          have pk := X6_pick_L (T := T) (pl := pl) (n := n) (m := m) (e := e) hT (by omega) hn he (fX6_orderBy_L18 fuel) (nI (k % e)) (μ := μ) h5 6 FU (k / e) 0 v hp (by omega) (by omega) (by decide)
          rw [h5, if_neg (fun z => absurd ((le_nI (by omega) (by omega)).mp z) (by omega)), if_pos ne, lti_e, if_pos ne, lti_e, pk_rem hk (by omega) he, pk_div hk (by omega) he]
          have p1 := pk.1
          rw [show nI 0 = (0 : Int32) from rfl] at p1
          rw [p1]
          obtain ⟨μ', e1, e2, e3, e4⟩ := ih fuel (k % e) (if m ≤ 1 then 1 else e / m) (T ||| 2 ^ v) (pl + 1) (up2 μ 39 pl (nI v)) r' hu (by omega) (by omega) (or_lt64 hT pk.2) (by omega) hem (by rw [up2_n _ _ _ (by decide)]; exact h5)
          refine ⟨μ', e1, fun j hj => ?_, fun j hj => ?_, fun i hi => by rw [e4 i hi, up2_n _ _ _ hi]⟩
          · rw [e2 j (by omega), up2_kn _ _ (by omega)]
          · cases j with
            | zero => rw [hr, Nat.add_zero, e2 pl (by omega), up2_ks]; rfl
            | succ j =>
              have := e3 j (by omega)
              rw [show pl + (j + 1) = pl + 1 + j by omega, this, hr]
              rfl
theorem X6_orderBy {n i : Nat} (h1 : 1 ≤ n) (h6 : n ≤ 6) (hi : i < fct n) {μ : Mem} (h5 : μ 31 5 = nI n) : ∃ μ', fX6_orderBy (nI i) μ = some ((), μ') ∧ IsO μ' (unk n i) ∧ ∀ c, c ≠ 39 → μ' c = μ c := by
  obtain ⟨a, b, -⟩ := ck h1 h6 hi
  have l1 := fct_le ⟨n, by omega⟩
  have l2 := fct_le ⟨n - 1, by omega⟩
  dsimp only at l1 l2
  obtain ⟨μ', e1, -, e3, e4⟩ := X6_ob_L h6 n FU i (fct (n - 1)) 0 0 μ _ a (by omega) (by show _ < 1000; omega) (by omega) (by omega) (by omega) h5
  refine ⟨μ', ?_, fun q hq => ?_, e4⟩
  · unfold fX6_orderBy
    rw [h5, sub1 (by omega), X6_ordersOf (by omega), bnd_s]
    exact e1
  · have := e3 q (by omega)
    rw [Nat.zero_add] at this
    exact this
def cO (g : Nat → Bool) : Nat → Nat → Nat → Nat
  | 0, _, c => c
  | m + 1, i, c => cO g m (i + 1) (if g i then c + 1 else c)
def fO (g : Nat → Bool) : Nat → Nat → Option Nat
  | 0, _ => none
  | m + 1, i => if g i then some i else fO g m (i + 1)
def gO (rs : List RT) (ls : List LT) (i : Nat) : Bool := agr rs ((unk ls.length i).map (lyr ls))
def rO (rs : List RT) (ls : List LT) (k m i c : Nat) (y : Int32) : Int32 := if c = 0 then (match fO (gO rs ls) m i with | none => y | some j => if k < ls.length then nI ((unk ls.length j).getD k 0) else y) else y
theorem zo_0 {b : Bool} : zo b = 0 ↔ b = false := by cases b <;> decide
theorem isb_zo (b : Bool) : isb (zo b) := by cases b <;> decide
theorem X6_orders_step {ls : List LT} {wm dm : Int32} {rs : List RT} (h1 : 1 ≤ ls.length) (hk : okW ls) {i : Nat} (hi : i < fct ls.length) {μ : Mem} (hM : IsM μ ls wm dm) (hr : IsRm μ rs) (x1 x2 x3 : Int32) (fuel : Nat) :
    ∃ μ', IsO μ' (unk ls.length i) ∧ (∀ c, c ≠ 39 → μ' c = μ c) ∧ fX6_orders_L30 x1 (fuel + 1) x2 x3 (nI i) μ = (if gO rs ls i = false then fX6_orders_L30 x1 fuel x2 x3 (nI (i + 1)) μ' else (if x2 = 0 then (if x1 < 0 then fX6_orders_L30 x1 fuel (x2 + 1) x3 (nI (i + 1)) μ' else (if nI ls.length ≤ x1 then fX6_orders_L30 x1 fuel (x2 + 1) x3 (nI (i + 1)) μ' else if inb x1 6 then fX6_orders_L30 x1 fuel (x2 + 1) (μ' 39 (x1).toNatClampNeg) (nI (i + 1)) μ' else none)) else fX6_orders_L30 x1 fuel (x2 + 1) x3 (nI (i + 1)) μ')) := by
  have h6 := hM.1
  have l1 := fct_le ⟨ls.length, by omega⟩
  dsimp only at l1
  obtain ⟨a, b, c, d, -⟩ := ck h1 h6 hi
  obtain ⟨μ', e1, e2, e3⟩ := X6_orderBy h1 h6 hi hM.2.1
  have hM' := hM.o39 e3
  have hr' : IsRm μ' rs := hr.fr (by rw [e3 31 (by decide)]) (e3 41 (by decide)) (e3 42 (by decide)) (e3 43 (by decide))
  refine ⟨μ', e2, e3, ?_⟩
  show sX6_orders_L30 (fX6_orders_L30 x1 fuel) x1 x2 x3 (nI i) μ = _
  unfold sX6_orders_L30
  rw [hM.2.1, X6_ordersOf h6, bnd_s, if_neg (fun z => absurd ((le_nI (by omega) (by omega)).mp z) (by omega)), e1, bnd_s, X6_areSo hM' hk e2 b c d hr', bnd_s, hM'.2.1, nI_1]
  show (if zo (gO rs ls i) = 0 then _ else _) = _
  simp only [zo_0, lti_e]
theorem X6_count_L {ls : List LT} {wm dm : Int32} {rs : List RT} (h1 : 1 ≤ ls.length) (hk : okW ls) (y : Int32) : ∀ (m fuel i c : Nat) (μ : Mem), i + m = fct ls.length → m < fuel → c ≤ i → IsM μ ls wm dm → IsRm μ rs →
    ∃ μ', fX6_orders_L30 (-1) fuel (nI c) y (nI i) μ = some (nI (cO (gO rs ls) m i c), μ') ∧ ∀ q, q ≠ 39 → μ' q = μ q := by
  intro m
  induction m with
  | zero =>
    intro fuel i c μ him hf hc hM hr
    obtain ⟨fuel, rfl⟩ : ∃ f, fuel = f + 1 := ⟨fuel - 1, by omega⟩
    have h6 := hM.1
    have l1 := fct_le ⟨ls.length, by omega⟩
    dsimp only at l1
    refine ⟨μ, ?_, fun _ _ => rfl⟩
    show sX6_orders_L30 (fX6_orders_L30 (-1) fuel) (-1) (nI c) y (nI i) μ = _
    unfold sX6_orders_L30
    rw [hM.2.1, X6_ordersOf h6, bnd_s, if_pos ((le_nI (by omega) (by omega)).mpr (by omega)), if_pos rfl]
    rfl
  | succ m ih =>
    intro fuel i c μ him hf hc hM hr
    obtain ⟨fuel, rfl⟩ : ∃ f, fuel = f + 1 := ⟨fuel - 1, by omega⟩
    obtain ⟨μ1, -, e3, e1⟩ := X6_orders_step (rs := rs) h1 hk (i := i) (by omega) hM hr (-1) (nI c) y fuel
    have hM' := hM.o39 e3
    have hr' : IsRm μ1 rs := hr.fr (by rw [e3 31 (by decide)]) (e3 41 (by decide)) (e3 42 (by decide)) (e3 43 (by decide))
    rw [e1, nI_1]
    unfold cO
    cases hg : gO rs ls i with
    | false =>
      rw [if_pos rfl, if_neg (by decide)]
      obtain ⟨μ', f1, f2⟩ := ih fuel (i + 1) c μ1 (by omega) (by omega) (by omega) hM' hr'
      exact ⟨μ', f1, fun q hq => (f2 q hq).trans (e3 q hq)⟩
    | true =>
      rw [if_neg (by decide), if_pos (show (-1 : Int32) < 0 by decide), if_pos rfl, ite_self]
      obtain ⟨μ', f1, f2⟩ := ih fuel (i + 1) (c + 1) μ1 (by omega) (by omega) (by omega) hM' hr'
      exact ⟨μ', f1, fun q hq => (f2 q hq).trans (e3 q hq)⟩
theorem X6_find_L {ls : List LT} {wm dm : Int32} {rs : List RT} (h1 : 1 ≤ ls.length) (hk : okW ls) {k : Nat} (hk6 : k < 6) : ∀ (m fuel i c : Nat) (y : Int32) (μ : Mem), i + m = fct ls.length → m < fuel → c ≤ i → IsM μ ls wm dm → IsRm μ rs →
    ∃ μ', fX6_orders_L30 (nI k) fuel (nI c) y (nI i) μ = some (rO rs ls k m i c y, μ') ∧ ∀ q, q ≠ 39 → μ' q = μ q := by
  intro m
  induction m with
  | zero =>
    intro fuel i c y μ him hf hc hM hr
    obtain ⟨fuel, rfl⟩ : ∃ f, fuel = f + 1 := ⟨fuel - 1, by omega⟩
    have h6 := hM.1
    have l1 := fct_le ⟨ls.length, by omega⟩
    dsimp only at l1
    refine ⟨μ, ?_, fun _ _ => rfl⟩
    show sX6_orders_L30 (fX6_orders_L30 (nI k) fuel) (nI k) (nI c) y (nI i) μ = _
    unfold sX6_orders_L30
    rw [hM.2.1, X6_ordersOf h6, bnd_s, if_pos ((le_nI (by omega) (by omega)).mpr (by omega)), if_neg (show ¬ nI k = -1 from fun z => nI_pos (n := k) (by omega) (by rw [z]; decide))]
    show _ = some (if c = 0 then y else y, μ)
    rw [ite_self]
  | succ m ih =>
    intro fuel i c y μ him hf hc hM hr
    obtain ⟨fuel, rfl⟩ : ∃ f, fuel = f + 1 := ⟨fuel - 1, by omega⟩
    have h6 := hM.1
    have l1 := fct_le ⟨ls.length, by omega⟩
    dsimp only at l1
    obtain ⟨μ1, e2, e3, e1⟩ := X6_orders_step (rs := rs) h1 hk (i := i) (by omega) hM hr (nI k) (nI c) y fuel
    obtain ⟨-, b, -, -, -⟩ := ck h1 h6 (i := i) (by omega)
    have hM' := hM.o39 e3
    have hr' : IsRm μ1 rs := hr.fr (by rw [e3 31 (by decide)]) (e3 41 (by decide)) (e3 42 (by decide)) (e3 43 (by decide))
    rw [e1, nI_1]
    cases hg : gO rs ls i with
    | false =>
      rw [if_pos rfl]
      obtain ⟨μ', f1, f2⟩ := ih fuel (i + 1) c y μ1 (by omega) (by omega) (by omega) hM' hr'
      refine ⟨μ', ?_, fun q hq => (f2 q hq).trans (e3 q hq)⟩
      rw [f1]
      unfold rO
      rw [show fO (gO rs ls) (m + 1) i = fO (gO rs ls) m (i + 1) by
        conv => lhs; unfold fO
        rw [hg, if_neg (by decide)]]
    | true =>
      rw [if_neg (by decide), if_neg (nI_pos (n := k) (by omega))]
      have ef : fO (gO rs ls) (m + 1) i = some i := by
        unfold fO
        rw [hg, if_pos rfl]
      have rn : ∀ z, rO rs ls k m (i + 1) (c + 1) z = z := fun z => by
        unfold rO
        rw [if_neg (by omega)]
      by_cases hc0 : c = 0
      · rw [if_pos ((zero_iff (by omega)).mpr hc0)]
        by_cases hkn : k < ls.length
        · rw [if_neg (fun z => absurd ((le_nI (by omega) (by omega)).mp z) (by omega)), if_pos (inb_nI hk6 (by omega)), cl_nI (by omega), e2 k (by omega)]
          obtain ⟨μ', f1, f2⟩ := ih fuel (i + 1) (c + 1) (nI ((unk ls.length i).getD k 0)) μ1 (by omega) (by omega) (by omega) hM' hr'
          refine ⟨μ', ?_, fun q hq => (f2 q hq).trans (e3 q hq)⟩
          rw [f1, rn]
          unfold rO
          rw [if_pos hc0, ef]
          dsimp only
          rw [if_pos hkn]
        · rw [if_pos ((le_nI (by omega) (by omega)).mpr (by omega))]
          obtain ⟨μ', f1, f2⟩ := ih fuel (i + 1) (c + 1) y μ1 (by omega) (by omega) (by omega) hM' hr'
          refine ⟨μ', ?_, fun q hq => (f2 q hq).trans (e3 q hq)⟩
          rw [f1, rn]
          unfold rO
          rw [if_pos hc0, ef]
          dsimp only
          rw [if_neg hkn]
      · rw [if_neg (fun z => hc0 ((zero_iff (by omega)).mp z))]
        obtain ⟨μ', f1, f2⟩ := ih fuel (i + 1) (c + 1) y μ1 (by omega) (by omega) (by omega) hM' hr'
        refine ⟨μ', ?_, fun q hq => (f2 q hq).trans (e3 q hq)⟩
        rw [f1, rn]
        unfold rO
        rw [if_neg hc0]
/-- the class: what the loops over orders may change -/
def FrO (μ μ' : Mem) : Prop := ∀ i, (i < 9 ∨ 17 ≤ i) → i ≠ 20 → i ≠ 21 → μ' i = μ i
theorem X5_fits {μ : Mem} {ls : List LT} {wm dm : Int32} {rs : List RT} {os : List Nat} (hW : IsW μ 1 ls wm dm) (hk : okW ls) (hr : IsRd μ rs) (hR : IsR μ os) (hol : os.length = ls.length) (hos : ∀ k ∈ os, k < ls.length) : ∃ μ', fX5_fitsInOrder μ = some (zo (agr rs (os.map (lyr ls))), μ') ∧ FrW μ μ' 9 := by
  obtain ⟨μ1, e1, e2, e3⟩ := X4_becomeOrdered hW hR hol hos
  have hk' : okW (os.map (lyr ls)) := fun t ht => by
    obtain ⟨k, hk1, rfl⟩ := List.mem_map.mp ht
    exact hk _ (lyr_mem (hos k hk1))
  have hr' : IsRd μ1 rs := hr.fr (e3 17 (by omega)) (e3 18 (by omega)) (e3 19 (by omega))
  refine ⟨μ1, ?_, e3⟩
  unfold fX5_fitsInOrder
  rw [e1, bnd_s, X2_agreeWith e2 hk' hr', bnd_s, if_pos (isb_zo _)]
theorem IsR.fr {μ μ' : Mem} {os : List Nat} (h : IsR μ os) (h20 : μ' 20 = μ 20) (h21 : μ' 21 = μ 21) : IsR μ' os := ⟨h.1, by rw [h20]; exact h.2.1, fun q hq => by rw [h21]; exact h.2.2 q hq⟩
theorem X5_count_L {ls : List LT} {wm dm : Int32} {rs : List RT} (h1 : 1 ≤ ls.length) (hk : okW ls) {μ0 : Mem} (hW : IsW μ0 1 ls wm dm) (hr : IsRd μ0 rs) : ∀ (m fuel i c : Nat) (μ : Mem), i + m + 1 = fct ls.length → m < fuel → c ≤ i → IsR μ (unk ls.length i) → FrO μ0 μ →
    ∃ μ', fX5_countOrders_L18 fuel (nI c) (nI i) μ = some (nI (cO (gO rs ls) (m + 1) i c), μ') ∧ FrO μ0 μ' := by
  have h6 := hW.1
  have l1 := fct_le ⟨ls.length, by omega⟩
  dsimp only at l1
  intro m
  induction m with
  | zero =>
    intro fuel i c μ him hf hc hR hF
    obtain ⟨fuel, rfl⟩ : ∃ f, fuel = f + 1 := ⟨fuel - 1, by omega⟩
    obtain ⟨-, b, d, -, e⟩ := ck h1 h6 (i := i) (by omega)
    obtain ⟨μ1, e1, e2⟩ := X5_fits (hW.fr (fun i _ _ => hF i (by omega) (by omega) (by omega))) hk (hr.fr (hF 17 (by omega) (by omega) (by omega)) (hF 18 (by omega) (by omega) (by omega)) (hF 19 (by omega) (by omega) (by omega))) hR b d
    have hR1 := hR.fr (e2 20 (by omega)) (e2 21 (by omega))
    rw [if_neg (by omega)] at e
    have fr : FrO μ0 μ1 := fun i a b c => (e2 i (by omega)).trans (hF i a b c)
    rcases X1_next hR1 (fun k hk => by have := d k hk; omega) (by omega) with ⟨-, n2⟩ | ⟨l', μ2, n1, -⟩
    · refine ⟨μ1, ?_, fr⟩
      show sX5_countOrders_L18 (fX5_countOrders_L18 fuel) (nI c) (nI i) μ = _
      unfold sX5_countOrders_L18
      rw [if_neg (show ¬ (720 : Int32) ≤ nI i from fun z => absurd ((le_nI (a := 720) (by omega) (by omega)).mp z) (by omega)), e1, bnd_s]
      show (if zo (gO rs ls i) = 0 then _ else _) = some (nI (if gO rs ls i = true then c + 1 else c), _)
      cases hg : gO rs ls i with
      | false => rw [if_pos (show zo false = 0 from rfl), n2, bnd_s, if_pos rfl, if_neg (by decide)]
      | true => rw [if_neg (show ¬ zo true = 0 from by decide), lti_e, n2, bnd_s, if_pos rfl, if_pos rfl, nI_1]
    · rw [n1] at e; exact absurd e (by simp)
  | succ m ih =>
    intro fuel i c μ him hf hc hR hF
    obtain ⟨fuel, rfl⟩ : ∃ f, fuel = f + 1 := ⟨fuel - 1, by omega⟩
    obtain ⟨-, b, d, -, e⟩ := ck h1 h6 (i := i) (by omega)
    obtain ⟨μ1, e1, e2⟩ := X5_fits (hW.fr (fun i _ _ => hF i (by omega) (by omega) (by omega))) hk (hr.fr (hF 17 (by omega) (by omega) (by omega)) (hF 18 (by omega) (by omega) (by omega)) (hF 19 (by omega) (by omega) (by omega))) hR b d
    have hR1 := hR.fr (e2 20 (by omega)) (e2 21 (by omega))
    rw [if_pos (by omega)] at e
    have fr : FrO μ0 μ1 := fun i a b c => (e2 i (by omega)).trans (hF i a b c)
    rcases X1_next hR1 (fun k hk => by have := d k hk; omega) (by omega) with ⟨n1, -⟩ | ⟨l', μ2, n1, n2, n3, n4⟩
    · rw [n1] at e; exact absurd e (by simp)
    · rw [n1] at e
      have el : l' = unk ls.length (i + 1) := by simpa using e
      rw [el] at n3
      have fr2 : FrO μ0 μ2 := fun i a b c => (n4 i c).trans (fr i a b c)
      show ∃ μ', sX5_countOrders_L18 (fX5_countOrders_L18 fuel) (nI c) (nI i) μ = _ ∧ _
      unfold sX5_countOrders_L18
      rw [if_neg (show ¬ (720 : Int32) ≤ nI i from fun z => absurd ((le_nI (a := 720) (by omega) (by omega)).mp z) (by omega)), e1, bnd_s]
      show ∃ μ', (if zo (gO rs ls i) = 0 then _ else _) = some (nI (cO (gO rs ls) (m + 1) (i + 1) (if gO rs ls i = true then c + 1 else c)), _) ∧ _
      cases hg : gO rs ls i with
      | false =>
        rw [if_pos (show zo false = 0 from rfl), n2, bnd_s, if_neg (by decide), if_neg (by decide), lti_e, nI_1]
        exact ih fuel (i + 1) c μ2 (by omega) (by omega) (by omega) n3 fr2
      | true =>
        rw [if_neg (show ¬ zo true = 0 from by decide), lti_e, n2, bnd_s, if_neg (by decide), if_pos rfl, lti_e, nI_1, nI_1]
        exact ih fuel (i + 1) (c + 1) μ2 (by omega) (by omega) (by omega) n3 fr2
theorem X5_find_L {ls : List LT} {wm dm : Int32} {rs : List RT} (h1 : 1 ≤ ls.length) (hk : okW ls) {μ0 : Mem} (hW : IsW μ0 1 ls wm dm) (hr : IsRd μ0 rs) : ∀ (m fuel i : Nat) (μ : Mem), i + m + 1 = fct ls.length → m < fuel → IsR μ (unk ls.length i) → FrO μ0 μ →
    ∃ μ', ((fO (gO rs ls) (m + 1) i = none ∧ fX5_findOrder_L16 fuel (nI i) μ = some (0, μ')) ∨ ∃ j, j < fct ls.length ∧ fO (gO rs ls) (m + 1) i = some j ∧ fX5_findOrder_L16 fuel (nI i) μ = some (1, μ') ∧ IsR μ' (unk ls.length j)) ∧ FrO μ0 μ' := by
  have h6 := hW.1
  have l1 := fct_le ⟨ls.length, by omega⟩
  dsimp only at l1
  intro m
  induction m with
  | zero =>
    intro fuel i μ him hf hR hF
    obtain ⟨fuel, rfl⟩ : ∃ f, fuel = f + 1 := ⟨fuel - 1, by omega⟩
    obtain ⟨-, b, d, -, e⟩ := ck h1 h6 (i := i) (by omega)
    obtain ⟨μ1, e1, e2⟩ := X5_fits (hW.fr (fun i _ _ => hF i (by omega) (by omega) (by omega))) hk (hr.fr (hF 17 (by omega) (by omega) (by omega)) (hF 18 (by omega) (by omega) (by omega)) (hF 19 (by omega) (by omega) (by omega))) hR b d
    have hR1 := hR.fr (e2 20 (by omega)) (e2 21 (by omega))
    rw [if_neg (by omega)] at e
    have fr : FrO μ0 μ1 := fun i a b c => (e2 i (by omega)).trans (hF i a b c)
    rcases X1_next hR1 (fun k hk => by have := d k hk; omega) (by omega) with ⟨-, n2⟩ | ⟨l', μ2, n1, -⟩
    · refine ⟨μ1, ?_, fr⟩
      have un : fX5_findOrder_L16 (fuel + 1) (nI i) μ = if zo (gO rs ls i) = 0 then some (0, μ1) else some (1, μ1) := by
        show sX5_findOrder_L16 (fX5_findOrder_L16 fuel) (nI i) μ = _
        unfold sX5_findOrder_L16
        rw [if_neg (show ¬ (720 : Int32) ≤ nI i from fun z => absurd ((le_nI (a := 720) (by omega) (by omega)).mp z) (by omega)), e1, bnd_s, n2, bnd_s, if_pos rfl]
        rfl
      rw [un]
      show ((if gO rs ls i = true then some i else none) = none ∧ _) ∨ ∃ j, _ ∧ (if gO rs ls i = true then some i else none) = some j ∧ _
      cases hg : gO rs ls i with
      | false => exact Or.inl ⟨if_neg (by decide), if_pos rfl⟩
      | true => exact Or.inr ⟨i, by omega, if_pos rfl, if_neg (show ¬ zo true = 0 from by decide), hR1⟩
    · rw [n1] at e; exact absurd e (by simp)
  | succ m ih =>
    intro fuel i μ him hf hR hF
    obtain ⟨fuel, rfl⟩ : ∃ f, fuel = f + 1 := ⟨fuel - 1, by omega⟩
    obtain ⟨-, b, d, -, e⟩ := ck h1 h6 (i := i) (by omega)
    obtain ⟨μ1, e1, e2⟩ := X5_fits (hW.fr (fun i _ _ => hF i (by omega) (by omega) (by omega))) hk (hr.fr (hF 17 (by omega) (by omega) (by omega)) (hF 18 (by omega) (by omega) (by omega)) (hF 19 (by omega) (by omega) (by omega))) hR b d
    have hR1 := hR.fr (e2 20 (by omega)) (e2 21 (by omega))
    rw [if_pos (by omega)] at e
    have fr : FrO μ0 μ1 := fun i a b c => (e2 i (by omega)).trans (hF i a b c)
    rcases X1_next hR1 (fun k hk => by have := d k hk; omega) (by omega) with ⟨n1, -⟩ | ⟨l', μ2, n1, n2, n3, n4⟩
    · rw [n1] at e; exact absurd e (by simp)
    · rw [n1] at e
      have el : l' = unk ls.length (i + 1) := by simpa using e
      rw [el] at n3
      have fr2 : FrO μ0 μ2 := fun i a b c => (n4 i c).trans (fr i a b c)
      have un : fX5_findOrder_L16 (fuel + 1) (nI i) μ = if zo (gO rs ls i) = 0 then fX5_findOrder_L16 fuel (nI (i + 1)) μ2 else some (1, μ1) := by
        show sX5_findOrder_L16 (fX5_findOrder_L16 fuel) (nI i) μ = _
        unfold sX5_findOrder_L16
        rw [if_neg (show ¬ (720 : Int32) ≤ nI i from fun z => absurd ((le_nI (a := 720) (by omega) (by omega)).mp z) (by omega)), e1, bnd_s, n2, bnd_s, if_neg (show ¬ (1 : Int32) = 0 from by decide), lti_e, nI_1]
        rfl
      rw [un]
      show ∃ μ', (((if gO rs ls i = true then some i else fO (gO rs ls) (m + 1) (i + 1)) = none ∧ _) ∨ ∃ j, _ ∧ (if gO rs ls i = true then some i else fO (gO rs ls) (m + 1) (i + 1)) = some j ∧ _) ∧ _
      cases hg : gO rs ls i with
      | false =>
        rw [if_pos (show zo false = 0 from rfl), if_neg (by decide)]
        exact ih fuel (i + 1) μ2 (by omega) (by omega) n3 fr2
      | true => exact ⟨μ1, Or.inr ⟨i, by omega, if_pos rfl, if_neg (show ¬ zo true = 0 from by decide), hR1⟩, fr⟩
theorem Jk.ord {μ μ' : Mem} (h : FrO μ μ') : Jk μ μ' := ⟨fun i hi => h i (by omega) (by omega) (by omega), fun f _ => by rw [h 31 (by omega) (by decide) (by decide)]⟩
theorem op_orders (x : Int32) : St (fX5_orders x) (fX6_orders x) := by
  refine St.jk (fun μ ls wm dm rs hR => ?_)
  have hR' := hR
  obtain ⟨⟨hW, hM, hk⟩, ⟨hrd, hrm⟩, -⟩ := hR
  have h6 := hW.1
  by_cases ha : x < -1
  · refine ⟨-2, μ, μ, ?_, Jk.rf, ?_, Jk.rf⟩
    · unfold fX5_orders
      rw [if_pos ha]
    · unfold fX6_orders fX6_within
      rw [if_pos ha, bnd_s, if_pos rfl]
  · by_cases hb : x < 6
    · have hb' : ¬ (5 : Int32) < x := by
        rw [Int32.lt_iff_toInt_lt] at hb ⊢
        have e6 : (6 : Int32).toInt = 6 := by decide
        have e5 : (5 : Int32).toInt = 5 := by decide
        omega
      have pre6 : ∀ ν, fX6_orders x ν = (if (ν 31 5) = 0 then some ((-3 : Int32), ν) else fX6_orders_L30 x FU (0 : Int32) (-9 : Int32) (0 : Int32) ν) := fun ν => by
        unfold fX6_orders fX6_within
        rw [if_neg ha, if_neg hb', bnd_s, if_neg (by decide)]
      have pre5 : fX5_orders x μ = (if zo (decide (0 < ls.length)) = 0 then some ((-3 : Int32), μ) else (if x = (-1 : Int32) then bnd (fX5_countOrders μ) (fun r_12 μ_10 => some (r_12, μ_10)) else (if (μ 1 1) ≤ x then some ((-9 : Int32), μ) else bnd (fX5_findOrder μ) (fun r_6 μ_4 => (if r_6 = 0 then some ((-9 : Int32), μ_4) else bnd (fX1_layerIn x μ_4) (fun r_9 μ_7 => some (r_9, μ_7))))))) := by
        unfold fX5_orders
        rw [if_neg ha, if_pos hb, stands_eq hW, bnd_s]
      by_cases h0 : ls.length = 0
      · refine ⟨-3, μ, μ, ?_, Jk.rf, ?_, Jk.rf⟩
        · rw [pre5, if_pos (by simp [h0, zo])]
        · rw [pre6, hM.2.1, if_pos ((zero_iff (by omega)).mpr h0)]
      · have h1 : 1 ≤ ls.length := by omega
        have n0 : ¬ nI ls.length = 0 := fun z => h0 ((zero_iff (by omega)).mp z)
        have hs : ¬ zo (decide (0 < ls.length)) = 0 := by
          have : 0 < ls.length := by omega
          simp [this, zo]
        obtain ⟨c0, c1, c2⟩ := ck0 h1 h6
        obtain ⟨μ0, b1, b2, b3⟩ := X1_begin h6 μ
        rw [← c0] at b2
        have fr0 : FrO μ μ0 := fun i _ h20 h21 => b3 i h20 h21
        by_cases hm : x = -1
        · obtain ⟨μ1, a1, a2⟩ := X5_count_L (rs := rs) h1 hk hW hrd (fct ls.length - 1) FU 0 0 μ0 (by omega) (by show _ < 1000; omega) (by omega) b2 fr0
          have j1 := Jk.ord a2
          have hR1 := hR'.jk j1
          obtain ⟨μ2, d1, d2⟩ := X6_count_L (rs := rs) h1 hk (-9) (fct ls.length) FU 0 0 μ1 (by omega) (by show _ < 1000; omega) (by omega) hR1.1.2.1 hR1.2.1.2
          rw [show fct ls.length - 1 + 1 = fct ls.length by omega] at a1
          refine ⟨nI (cO (gO rs ls) (fct ls.length) 0 0), μ1, μ2, ?_, j1, ?_, Jk.o39 d2⟩
          · rw [pre5, if_neg hs, if_pos hm]
            unfold fX5_countOrders
            rw [hW.2.1, b1, bnd_s, show fX5_countOrders_L18 FU (0 : Int32) (0 : Int32) μ0 = _ from a1, bnd_s]
          · rw [pre6, hR1.1.2.1.2.1, if_neg n0, hm]
            exact d1
        · have hx : ¬ x < 0 := fun z => hm (by
            rw [Int32.lt_iff_toInt_lt] at ha z
            have e0 : (0 : Int32).toInt = 0 := by decide
            have e1 : (-1 : Int32).toInt = -1 := by decide
            exact Int32.toInt_inj.mp (by omega))
          obtain ⟨k, hk31, rfl⟩ := nI_of hx
          have hk6 : k < 6 := (lt_nI (b := 6) hk31 (by omega)).mp hb
          by_cases hkn : k < ls.length
          · have nle : ¬ nI ls.length ≤ nI k := fun z => absurd ((le_nI (by omega) (by omega)).mp z) (by omega)
            obtain ⟨μ1, a1, a2⟩ := X5_find_L (rs := rs) h1 hk hW hrd (fct ls.length - 1) FU 0 μ0 (by omega) (by show _ < 1000; omega) b2 fr0
            have j1 := Jk.ord a2
            have hR1 := hR'.jk j1
            obtain ⟨μ2, d1, d2⟩ := X6_find_L (rs := rs) h1 hk hk6 (fct ls.length) FU 0 0 (-9) μ1 (by omega) (by show _ < 1000; omega) (by omega) hR1.1.2.1 hR1.2.1.2
            rw [show fct ls.length - 1 + 1 = fct ls.length by omega] at a1
            rcases a1 with ⟨a3, a4⟩ | ⟨j, hj, a3, a4, a5⟩
            · refine ⟨-9, μ1, μ2, ?_, j1, ?_, Jk.o39 d2⟩
              · rw [pre5, if_neg hs, if_neg hm, hW.2.1, if_neg nle]
                unfold fX5_findOrder
                rw [hW.2.1, b1, bnd_s, show fX5_findOrder_L16 FU (0 : Int32) μ0 = _ from a4, bnd_s, if_pos rfl]
              · rw [pre6, hR1.1.2.1.2.1, if_neg n0]
                unfold rO at d1
                rw [if_pos rfl, a3] at d1
                exact d1
            · obtain ⟨-, bl, -, -, -⟩ := ck h1 h6 hj
              refine ⟨nI ((unk ls.length j).getD k 0), μ1, μ2, ?_, j1, ?_, Jk.o39 d2⟩
              · rw [pre5, if_neg hs, if_neg hm, hW.2.1, if_neg nle]
                unfold fX5_findOrder
                rw [hW.2.1, b1, bnd_s, show fX5_findOrder_L16 FU (0 : Int32) μ0 = _ from a4, bnd_s, if_neg (by decide), X1_layerIn a5 (by omega), bnd_s]
              · rw [pre6, hR1.1.2.1.2.1, if_neg n0]
                unfold rO at d1
                rw [if_pos rfl, a3] at d1
                dsimp only at d1
                rw [if_pos hkn] at d1
                exact d1
          · obtain ⟨μ2, d1, d2⟩ := X6_find_L (rs := rs) h1 hk hk6 (fct ls.length) FU 0 0 (-9) μ (by omega) (by show _ < 1000; omega) (by omega) hM hrm
            refine ⟨-9, μ, μ2, ?_, Jk.rf, ?_, Jk.o39 d2⟩
            · rw [pre5, if_neg hs, if_neg hm, hW.2.1, if_pos ((le_nI (by omega) (by omega)).mpr (by omega))]
            · rw [pre6, hM.2.1, if_neg n0]
              have : rO rs ls k (fct ls.length) 0 0 (-9) = -9 := by
                unfold rO
                rw [if_pos rfl]
                split
                · rfl
                · rw [if_neg hkn]
              rw [this] at d1
              exact d1
    · refine ⟨-2, μ, μ, ?_, Jk.rf, ?_, Jk.rf⟩
      · unfold fX5_orders
        rw [if_neg ha, if_neg hb]
      · have hb' : (5 : Int32) < x := by
          rw [Int32.lt_iff_toInt_lt] at hb ⊢
          have e6 : (6 : Int32).toInt = 6 := by decide
          have e5 : (5 : Int32).toInt = 5 := by decide
          omega
        unfold fX6_orders fX6_within
        rw [if_neg ha, if_pos hb', bnd_s, if_pos rfl]
