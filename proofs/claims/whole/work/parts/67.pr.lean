/-! PURE: orders, the rows of both -/
def prF : Nat → Nat → Nat → Nat
  | a, _, 0 => a
  | a, x, m + 1 => prF (a * x) (x + 1) m
def fct (n : Nat) : Nat := prF 1 2 (n - 1)
theorem X6_ordersOf_L {n : Nat} (hn : n ≤ 6) (μ : Mem) : ∀ (m fuel a x : Nat), n < x + m → (0 < m → x + m = n + 1) → m < fuel → x ≤ 7 → fX6_ordersOf_L4 (nI n) fuel (nI a) (nI x) μ = some (nI (prF a x m), μ) := by
  intro m
  induction m with
  | zero =>
    intro fuel a x h1 h2 hf hx
    obtain ⟨fuel, rfl⟩ : ∃ f, fuel = f + 1 := ⟨fuel - 1, by omega⟩
    show sX6_ordersOf_L4 (fX6_ordersOf_L4 (nI n) fuel) (nI n) (nI a) (nI x) μ = _
    unfold sX6_ordersOf_L4
    rw [if_pos ((lt_nI (by omega) (by omega)).mpr (by omega))]
    rfl
  | succ m ih =>
    intro fuel a x h1 h2 hf hx
    obtain ⟨fuel, rfl⟩ : ∃ f, fuel = f + 1 := ⟨fuel - 1, by omega⟩
    have := h2 (by omega)
    show sX6_ordersOf_L4 (fX6_ordersOf_L4 (nI n) fuel) (nI n) (nI a) (nI x) μ = _
    unfold sX6_ordersOf_L4
    rw [if_neg (fun z => absurd ((lt_nI (by omega) (by omega)).mp z) (by omega)), lti_e, lti_e, pk_mul, nI_1]
    exact ih fuel (a * x) (x + 1) (by omega) (fun _ => by omega) (by omega) (by omega)
theorem X6_ordersOf {n : Nat} (hn : n ≤ 6) (μ : Mem) : fX6_ordersOf (nI n) μ = some (nI (fct n), μ) :=
  X6_ordersOf_L hn μ (n - 1) FU 1 2 (by omega) (by omega) (by show _ < 1000; omega) (by omega)
def pkF (T : Nat) : Nat → Nat → Nat → Option Nat
  | 0, _, _ => none
  | f + 1, w, v => if T.testBit v then pkF T f w (v + 1) else (if w = 0 then some v else pkF T f (w - 1) (v + 1))
def unr : Nat → Nat → Nat → Nat → Option (List Nat)
  | 0, _, _, _ => some []
  | m + 1, k, e, T => if e = 0 then none else match pkF T 6 (k / e) 0 with
    | none => none
    | some v => (unr m (k % e) (if m ≤ 1 then 1 else e / m) (T ||| 2 ^ v)).map (fun r => v :: r)
def unk (n i : Nat) : List Nat := (unr n i (fct (n - 1)) 0).getD []
def fpF (l : List Nat) : Nat → Option Nat
  | 0 => none
  | p + 1 => if l.getD (p + 1) 0 ≤ l.getD p 0 then fpF l p else some p
def pgF (l : List Nat) (p : Nat) : Nat → Nat
  | 0 => p
  | q + 1 => if q + 1 ≤ p then p else if l.getD (q + 1) 0 ≤ l.getD p 0 then pgF l p q else q + 1
def swp (l : List Nat) (a b : Nat) : List Nat := (l.set a (l.getD b 0)).set b (l.getD a 0)
def rvF : Nat → Nat → Nat → List Nat → List Nat
  | 0, _, _, l => l
  | f + 1, lo, hi, l => if hi ≤ lo then l else rvF f (lo + 1) (hi - 1) (swp l lo hi)
def nxF (l : List Nat) : Option (List Nat) := match fpF l (l.length - 1) with
  | none => none
  | some p => some (rvF 6 (p + 1) (l.length - 1) (swp l p (pgF l p (l.length - 1))))
def ckF (n : Nat) : Bool := decide (unk n 0 = List.range n) && decide (0 < fct n ∧ fct n ≤ 720) && (List.range (fct n)).all (fun i => decide (unr n i (fct (n - 1)) 0 = some (unk n i)) && decide ((unk n i).length = n) && (unk n i).all (fun k => decide (k < n)) && decide ((unk n i).Nodup) && decide (nxF (unk n i) = if i + 1 < fct n then some (unk n (i + 1)) else none))
set_option maxRecDepth 100000 in
theorem ck_ok : ∀ n : Fin 6, ckF (n.val + 1) = true := by decide +kernel
theorem ck0 {n : Nat} (h1 : 1 ≤ n) (h6 : n ≤ 6) : unk n 0 = List.range n ∧ 0 < fct n ∧ fct n ≤ 720 := by
  have h := ck_ok ⟨n - 1, by omega⟩
  rw [show (⟨n - 1, by omega⟩ : Fin 6).val + 1 = n by simp; omega] at h
  unfold ckF at h
  simp only [Bool.and_eq_true, decide_eq_true_eq] at h
  exact ⟨h.1.1, h.1.2⟩
theorem ck {n i : Nat} (h1 : 1 ≤ n) (h6 : n ≤ 6) (hi : i < fct n) : unr n i (fct (n - 1)) 0 = some (unk n i) ∧ (unk n i).length = n ∧ (∀ k ∈ unk n i, k < n) ∧ (unk n i).Nodup ∧ nxF (unk n i) = if i + 1 < fct n then some (unk n (i + 1)) else none := by
  have h := ck_ok ⟨n - 1, by omega⟩
  rw [show (⟨n - 1, by omega⟩ : Fin 6).val + 1 = n by simp; omega] at h
  unfold ckF at h
  rw [Bool.and_eq_true] at h
  have h2 := (List.all_eq_true.mp h.2) i (List.mem_range.mpr hi)
  rw [Bool.and_eq_true, Bool.and_eq_true, Bool.and_eq_true, Bool.and_eq_true] at h2
  obtain ⟨⟨⟨⟨a, b⟩, c⟩, d⟩, e⟩ := h2
  exact ⟨of_decide_eq_true a, of_decide_eq_true b, fun k hk => of_decide_eq_true ((List.all_eq_true.mp c) k hk), of_decide_eq_true d, of_decide_eq_true e⟩
theorem getD_set {l : List Nat} {a q v : Nat} (ha : a < l.length) : (l.set a v).getD q 0 = if q = a then v else l.getD q 0 := by
  by_cases h : q = a
  · subst h
    rw [if_pos rfl, List.getD_eq_getElem?_getD, List.getElem?_set, if_pos rfl, if_pos ha]
    rfl
  · rw [if_neg h, List.getD_eq_getElem?_getD, List.getElem?_set, if_neg (fun z => h z.symm), ← List.getD_eq_getElem?_getD]
theorem swp_len (l : List Nat) (a b : Nat) : (swp l a b).length = l.length := by
  unfold swp
  rw [List.length_set, List.length_set]
theorem X1_swap {μ : Mem} {l : List Nat} (h : IsR μ l) {a b : Nat} (ha : a < l.length) (hb : b < l.length) : ∃ μ', fX1_swap (nI a) (nI b) μ = some ((), μ') ∧ IsR μ' (swp l a b) ∧ ∀ i, i ≠ 21 → μ' i = μ i := by
  have h6 := h.1
  have ia : inb (nI a) 6 := inb_nI (by omega) (by omega)
  have ib : inb (nI b) 6 := inb_nI (by omega) (by omega)
  refine ⟨up2 (up2 μ 21 a (μ 21 b)) 21 b (μ 21 a), ?_, ⟨by rw [swp_len]; exact h6, ?_, fun q hq => ?_⟩, fun i hi => by rw [up2_n _ _ _ hi, up2_n _ _ _ hi]⟩
  · unfold fX1_swap
    rw [if_pos ia, lti_e, if_pos ib, if_pos ia, ltm_e, if_pos ib, ltm_e, cl_nI (by omega), cl_nI (by omega)]
  · rw [swp_len, up2_n _ _ _ (by decide), up2_n _ _ _ (by decide)]; exact h.2.1
  · rw [swp_len] at hq
    unfold swp
    rw [getD_set (by rw [List.length_set]; exact hb), getD_set ha]
    by_cases e : q = b
    · rw [if_pos e, e, up2_ks]; exact h.2.2 a ha
    · rw [if_neg e, up2_kn _ _ e]
      by_cases e' : q = a
      · rw [if_pos e', e', up2_ks]; exact h.2.2 b hb
      · rw [if_neg e', up2_kn _ _ e']; exact h.2.2 q hq
theorem X1_pg_L {μ : Mem} {l : List Nat} (h : IsR μ l) (hb : ∀ k ∈ l, k < 6) {p : Nat} (hp : p < l.length) : ∀ (q fuel : Nat), q < l.length → q < fuel → fX1_placeOfNextGreater_L7 (nI p) fuel (nI q) μ = some (nI (pgF l p q), μ) ∧ pgF l p q < l.length := by
  have h6 := h.1
  intro q
  induction q with
  | zero =>
    intro fuel hq hf
    obtain ⟨fuel, rfl⟩ : ∃ f, fuel = f + 1 := ⟨fuel - 1, by omega⟩
    refine ⟨?_, hp⟩
    show sX1_placeOfNextGreater_L7 (fX1_placeOfNextGreater_L7 (nI p) fuel) (nI p) (nI 0) μ = _
    unfold sX1_placeOfNextGreater_L7
    rw [if_pos ((le_nI (by omega) (by omega)).mpr (by omega))]
    rfl
  | succ q ih =>
    intro fuel hq hf
    obtain ⟨fuel, rfl⟩ : ∃ f, fuel = f + 1 := ⟨fuel - 1, by omega⟩
    show sX1_placeOfNextGreater_L7 (fX1_placeOfNextGreater_L7 (nI p) fuel) (nI p) (nI (q + 1)) μ = _ ∧ _
    unfold sX1_placeOfNextGreater_L7 pgF
    by_cases c : q + 1 ≤ p
    · rw [if_pos ((le_nI (by omega) (by omega)).mpr c), if_pos c]
      exact ⟨rfl, hp⟩
    · have b1 := hb _ (getD_mem hq)
      have b2 := hb _ (getD_mem hp)
      rw [if_neg (fun z => c ((le_nI (by omega) (by omega)).mp z)), if_neg c, if_pos (inb_nI (by omega) (by omega)), if_pos (inb_nI (by omega) (by omega)), cl_nI (by omega), cl_nI (by omega), h.2.2 _ hq, h.2.2 _ hp, lti_e, add_m1 (by omega)]
      by_cases d : l.getD (q + 1) 0 ≤ l.getD p 0
      · rw [if_pos ((le_nI (by omega) (by omega)).mpr d), if_pos d]
        exact ih fuel (by omega) (by omega)
      · rw [if_neg (fun z => d ((le_nI (by omega) (by omega)).mp z)), if_neg d]
        exact ⟨rfl, hq⟩
theorem X1_rev_L : ∀ (f fuel lo hi : Nat) (l : List Nat) (μ : Mem), IsR μ l → hi < l.length → lo ≤ l.length → hi ≤ lo + f → f < fuel → ∃ μ', fX1_reverseFrom_L9 fuel (nI hi) (nI lo) μ = some ((), μ') ∧ IsR μ' (rvF f lo hi l) ∧ ∀ i, i ≠ 21 → μ' i = μ i := by
  intro f
  induction f with
  | zero =>
    intro fuel lo hi l μ h hhi hlo hf hfu
    obtain ⟨fuel, rfl⟩ : ∃ f, fuel = f + 1 := ⟨fuel - 1, by omega⟩
    have h6 := h.1
    refine ⟨μ, ?_, h, fun _ _ => rfl⟩
    show sX1_reverseFrom_L9 (fX1_reverseFrom_L9 fuel) (nI hi) (nI lo) μ = _
    unfold sX1_reverseFrom_L9
    rw [if_pos ((le_nI (by omega) (by omega)).mpr (by omega))]
  | succ f ih =>
    intro fuel lo hi l μ h hhi hlo hf hfu
    obtain ⟨fuel, rfl⟩ : ∃ f, fuel = f + 1 := ⟨fuel - 1, by omega⟩
    have h6 := h.1
    show ∃ μ', sX1_reverseFrom_L9 (fX1_reverseFrom_L9 fuel) (nI hi) (nI lo) μ = _ ∧ _
    unfold sX1_reverseFrom_L9 rvF
    by_cases c : hi ≤ lo
    · rw [if_pos ((le_nI (by omega) (by omega)).mpr c), if_pos c]
      exact ⟨μ, rfl, h, fun _ _ => rfl⟩
    · rw [if_neg (fun z => c ((le_nI (by omega) (by omega)).mp z)), if_neg c]
      obtain ⟨μ1, e1, e2, e3⟩ := X1_swap h (a := lo) (b := hi) (by omega) hhi
      rw [e1, bnd_s, lti_e, lti_e, add_m1 (by omega), nI_1]
      obtain ⟨μ2, f1, f2, f3⟩ := ih fuel (lo + 1) (hi - 1) (swp l lo hi) μ1 e2 (by rw [swp_len]; omega) (by rw [swp_len]; omega) (by omega) (by omega)
      exact ⟨μ2, f1, f2, fun i hi => (f3 i hi).trans (e3 i hi)⟩
theorem X1_next_L {μ : Mem} {l : List Nat} (h : IsR μ l) (hb : ∀ k ∈ l, k < 6) : ∀ (p fuel : Nat), p + 1 ≤ l.length → p < fuel →
    (fpF l p = none ∧ fX1_next_L7 fuel (nI p + (-1)) μ = some (0, μ)) ∨ ∃ p' μ', fpF l p = some p' ∧ fX1_next_L7 fuel (nI p + (-1)) μ = some (1, μ') ∧ IsR μ' (rvF 6 (p' + 1) (l.length - 1) (swp l p' (pgF l p' (l.length - 1)))) ∧ ∀ i, i ≠ 21 → μ' i = μ i := by
  have h6 := h.1
  intro p
  induction p with
  | zero =>
    intro fuel hp hf
    obtain ⟨fuel, rfl⟩ : ∃ f, fuel = f + 1 := ⟨fuel - 1, by omega⟩
    refine Or.inl ⟨rfl, ?_⟩
    show sX1_next_L7 (fX1_next_L7 fuel) (nI 0 + (-1)) μ = _
    unfold sX1_next_L7
    rw [if_pos (show nI 0 + (-1) < 0 from by decide)]
  | succ p ih =>
    intro fuel hp hf
    obtain ⟨fuel, rfl⟩ : ∃ f, fuel = f + 1 := ⟨fuel - 1, by omega⟩
    have un : fX1_next_L7 (fuel + 1) (nI (p + 1) + (-1)) μ = (if l.getD (p + 1) 0 ≤ l.getD p 0 then fX1_next_L7 fuel (nI p + (-1)) μ else bnd (fX1_placeOfNextGreater (nI p) μ) (fun r_5 μ_3 => bnd (fX1_swap (nI p) r_5 μ_3) (fun _ μ_6 => bnd (fX1_reverseFrom (nI (p + 1)) μ_6) (fun _ μ_9 => some ((1 : Int32), μ_9))))) := by
      show sX1_next_L7 (fX1_next_L7 fuel) (nI (p + 1) + (-1)) μ = _
      unfold sX1_next_L7
      have b1 := hb _ (getD_mem (show p + 1 < l.length by omega))
      have b2 := hb _ (getD_mem (show p < l.length by omega))
      rw [add_m1 (by omega), Nat.add_sub_cancel, if_neg (nI_pos (by omega)), nI_1, if_pos (inb_nI (by omega) (by omega)), if_pos (inb_nI (by omega) (by omega)), cl_nI (by omega), cl_nI (by omega), h.2.2 _ (by omega), h.2.2 _ (by omega), lti_e]
      by_cases d : l.getD (p + 1) 0 ≤ l.getD p 0
      · rw [if_pos ((le_nI (by omega) (by omega)).mpr d), if_pos d]
      · rw [if_neg (fun z => d ((le_nI (by omega) (by omega)).mp z)), if_neg d]
    rw [un]
    unfold fpF
    by_cases d : l.getD (p + 1) 0 ≤ l.getD p 0
    · rw [if_pos d, if_pos d]
      exact ih fuel (by omega) (by omega)
    · rw [if_neg d, if_neg d]
      obtain ⟨g1, g2⟩ := X1_pg_L h hb (p := p) (by omega) (l.length - 1) FU (by omega) (by show _ < 1000; omega)
      obtain ⟨μ1, e1, e2, e3⟩ := X1_swap h (a := p) (by omega) g2
      obtain ⟨μ2, f1, f2, f3⟩ := X1_rev_L 6 FU (p + 1) (l.length - 1) _ μ1 e2 (by rw [swp_len]; omega) (by rw [swp_len]; omega) (by omega) (by decide)
      refine Or.inr ⟨p, μ2, rfl, ?_, f2, fun i hi => (f3 i hi).trans (e3 i hi)⟩
      unfold fX1_placeOfNextGreater
      rw [lti_e, h.2.1, sub1 (by omega), g1, bnd_s, e1, bnd_s]
      unfold fX1_reverseFrom
      rw [lti_e, e2.2.1, swp_len, sub1 (by omega), f1, bnd_s]
theorem sub2 : ∀ n : Fin 6, nI (n.val + 1) - 2 = nI n.val + (-1) := by decide +kernel
theorem X1_next {μ : Mem} {l : List Nat} (h : IsR μ l) (hb : ∀ k ∈ l, k < 6) (h1 : 1 ≤ l.length) : (nxF l = none ∧ fX1_next μ = some (0, μ)) ∨ ∃ l' μ', nxF l = some l' ∧ fX1_next μ = some (1, μ') ∧ IsR μ' l' ∧ ∀ i, i ≠ 21 → μ' i = μ i := by
  have h6 := h.1
  have e := sub2 ⟨l.length - 1, by omega⟩
  dsimp only at e
  rw [show l.length - 1 + 1 = l.length by omega] at e
  unfold fX1_next nxF
  rw [lti_e, h.2.1, e]
  rcases X1_next_L h hb (l.length - 1) FU (by omega) (by show _ < 1000; omega) with ⟨a, b⟩ | ⟨p', μ', a, b, c, d⟩
  · rw [a]; exact Or.inl ⟨rfl, b⟩
  · rw [a]; exact Or.inr ⟨_, μ', rfl, b, c, d⟩
theorem getD_range {n q : Nat} (h : q < n) : (List.range n).getD q 0 = q := by
  rw [List.getD_eq_getElem?_getD, List.getElem?_range h]
  rfl
theorem X1_begin_L {n : Nat} (hn : n ≤ 6) : ∀ (m fuel k : Nat) (μ : Mem), k + m = n → m < fuel → μ 20 1 = nI n → (∀ j, j < k → μ 21 j = nI j) → ∃ μ', fX1_begin_L16 fuel (nI k) μ = some ((), μ') ∧ (∀ j, j < n → μ' 21 j = nI j) ∧ ∀ i, i ≠ 21 → μ' i = μ i := by
  intro m
  induction m with
  | zero =>
    intro fuel k μ hk hf h1 hj
    obtain ⟨fuel, rfl⟩ : ∃ f, fuel = f + 1 := ⟨fuel - 1, by omega⟩
    refine ⟨μ, ?_, fun j h => hj j (by omega), fun _ _ => rfl⟩
    show sX1_begin_L16 (fX1_begin_L16 fuel) (nI k) μ = _
    unfold sX1_begin_L16
    rw [h1, if_pos ((le_nI (by omega) (by omega)).mpr (by omega))]
  | succ m ih =>
    intro fuel k μ hk hf h1 hj
    obtain ⟨fuel, rfl⟩ : ∃ f, fuel = f + 1 := ⟨fuel - 1, by omega⟩
    show ∃ μ', sX1_begin_L16 (fX1_begin_L16 fuel) (nI k) μ = _ ∧ _
    unfold sX1_begin_L16
    rw [h1, if_neg (fun z => absurd ((le_nI (by omega) (by omega)).mp z) (by omega)), if_pos (inb_nI (by omega) (by omega)), ltm_e, lti_e, nI_1, cl_nI (by omega)]
    obtain ⟨μ', e1, e2, e3⟩ := ih fuel (k + 1) (up2 μ 21 k (nI k)) (by omega) (by omega) (by rw [up2_n _ _ _ (by decide)]; exact h1) (fun j h => by
      by_cases e : j = k
      · rw [e, up2_ks]
      · rw [up2_kn _ _ e]; exact hj j (by omega))
    exact ⟨μ', e1, e2, fun i hi => by rw [e3 i hi, up2_n _ _ _ hi]⟩
theorem X1_begin {n : Nat} (hn : n ≤ 6) (μ : Mem) : ∃ μ', fX1_begin (nI n) μ = some ((), μ') ∧ IsR μ' (List.range n) ∧ ∀ i, i ≠ 20 → i ≠ 21 → μ' i = μ i := by
  obtain ⟨μ', e1, e2, e3⟩ := X1_begin_L hn n FU 0 (up2 μ 20 1 (nI n)) (by omega) (by show _ < 1000; omega) (up2_ks _ _ _ _) (fun j hj => absurd hj (by omega))
  refine ⟨μ', ?_, ⟨by rw [List.length_range]; exact hn, ?_, fun q hq => ?_⟩, fun i h20 h21 => by rw [e3 i h21, up2_n _ _ _ h20]⟩
  · unfold fX1_begin
    rw [if_neg (nI_pos (n := n) (by omega)), if_neg (show ¬ (6 : Int32) < nI n from fun z => absurd ((lt_nI (a := 6) (by omega) (by omega)).mp z) (by omega)), ltm_e]
    exact e1
  · rw [List.length_range, e3 20 (by decide), up2_ks]
  · rw [List.length_range] at hq
    rw [getD_range hq]; exact e2 q hq
