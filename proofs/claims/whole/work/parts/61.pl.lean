/-! PURE: clash -/
theorem c2_ok : ∀ c : Fin 7, (nI c.val * (nI c.val - 1)) / 2 = nI (c.val * (c.val - 1) / 2) := by decide +kernel
def c2 (n : Nat) : Nat := n * (n - 1) / 2
theorem c2_succ (n : Nat) : c2 (n + 1) = c2 n + n := by
  unfold c2
  cases n with
  | zero => rfl
  | succ m =>
    show (m + 1 + 1) * (m + 1) / 2 = (m + 1) * m / 2 + (m + 1)
    rw [show (m + 1 + 1) * (m + 1) = (m + 1) * m + (m + 1) * 2 by rw [Nat.mul_comm, ← Nat.mul_add], Nat.add_mul_div_right _ _ (by decide)]
/-- the sum over v, v + 1 .. -/
def alk (as : List Int32) : Nat → Nat → Nat
  | _, 0 => 0
  | v, m + 1 => c2 (as.count (nI v)) + alk as (v + 1) m
theorem alk_cons {as : List Int32} {a : Nat} (ha : a < 2 ^ 31) : ∀ (m v : Nat), v + m ≤ 10 → alk (nI a :: as) v m = alk as v m + (if v ≤ a ∧ a < v + m then as.count (nI a) else 0)
  | 0, v, _ => by rw [if_neg (by omega)]; rfl
  | m + 1, v, h => by
    unfold alk
    rw [alk_cons ha m (v + 1) (by omega), List.count_cons]
    by_cases e : a = v
    · subst e
      have n1 : ¬ (a + 1 ≤ a ∧ a < a + 1 + m) := by omega
      have p1 : a ≤ a ∧ a < a + (m + 1) := by omega
      have p2 : (nI a == nI a) = true := by simp
      rw [if_neg n1, if_pos p1, if_pos p2, c2_succ]
      omega
    · have ne : ¬ (nI a == nI v) = true := by
        rw [beq_iff_eq, nI_eq ha (by omega)]
        exact e
      rw [if_neg ne, Nat.add_zero]
      by_cases hc : v + 1 ≤ a ∧ a < v + 1 + m
      · rw [if_pos hc, if_pos (show v ≤ a ∧ a < v + (m + 1) by omega)]
        omega
      · rw [if_neg hc, if_neg (show ¬ (v ≤ a ∧ a < v + (m + 1)) by omega)]
        omega
theorem prs_alk : ∀ (as : List Int32), (∀ a ∈ as, okD a) → prs as + alk as 0 10 = c2 as.length
  | [], _ => by decide
  | a :: r, h => by
    obtain ⟨n, hn, e⟩ := h a List.mem_cons_self
    have ih := prs_alk r (fun b hb => h b (List.mem_cons_of_mem _ hb))
    subst e
    rw [alk_cons (by omega) 10 0 (by omega), if_pos (by omega)]
    unfold prs
    rw [List.length_cons, c2_succ, ← ih]
    have hcp : r.countP (fun b => !(b == nI n)) + r.count (nI n) = r.length := by
      clear ih h
      induction r with
      | nil => rfl
      | cons x r ih2 =>
        rw [List.countP_cons, List.count_cons, List.length_cons]
        by_cases hx : (x == nI n) = true
        · simp [hx]
          omega
        · simp [hx]
          omega
    omega
def mxV (as : List Int32) : Nat → Nat → Nat → Nat
  | _, 0, mo => mo
  | v, m + 1, mo => mxV as (v + 1) m (if mo < as.count (nI v) then as.count (nI v) else mo)
theorem mxV_sp (as : List Int32) : ∀ (m v mo : Nat), mo ≤ mxV as v m mo ∧ (∀ x, v ≤ x → x < v + m → as.count (nI x) ≤ mxV as v m mo) ∧ (mxV as v m mo = mo ∨ ∃ x, v ≤ x ∧ x < v + m ∧ mxV as v m mo = as.count (nI x))
  | 0, v, mo => ⟨Nat.le_refl _, fun x h1 h2 => by omega, Or.inl rfl⟩
  | m + 1, v, mo => by
    unfold mxV
    obtain ⟨h1, h2, h3⟩ := mxV_sp as m (v + 1) (if mo < as.count (nI v) then as.count (nI v) else mo)
    have hle : mo ≤ (if mo < as.count (nI v) then as.count (nI v) else mo) ∧ as.count (nI v) ≤ (if mo < as.count (nI v) then as.count (nI v) else mo) := by split <;> omega
    refine ⟨by omega, fun x hx1 hx2 => ?_, ?_⟩
    · by_cases e : x = v
      · subst e; omega
      · exact h2 x (by omega) (by omega)
    · rcases h3 with h3 | ⟨x, a, b, c⟩
      · by_cases hc : mo < as.count (nI v)
        · rw [if_pos hc] at h3 ⊢
          exact Or.inr ⟨v, by omega, by omega, h3⟩
        · rw [if_neg hc] at h3 ⊢
          exact Or.inl h3
      · exact Or.inr ⟨x, by omega, by omega, c⟩
theorem mxF_sp (g : Int32 → Nat) : ∀ (l : List Int32) (mo : Nat), mo ≤ mxF g l mo ∧ (∀ a ∈ l, g a ≤ mxF g l mo) ∧ (mxF g l mo = mo ∨ ∃ a ∈ l, mxF g l mo = g a)
  | [], mo => ⟨Nat.le_refl _, fun a h => absurd h List.not_mem_nil, Or.inl rfl⟩
  | b :: r, mo => by
    unfold mxF
    obtain ⟨h1, h2, h3⟩ := mxF_sp g r (if mo < g b then g b else mo)
    have hle : mo ≤ (if mo < g b then g b else mo) ∧ g b ≤ (if mo < g b then g b else mo) := by split <;> omega
    refine ⟨by omega, fun a ha => ?_, ?_⟩
    · rcases List.mem_cons.mp ha with e | e
      · subst e; omega
      · exact h2 a e
    · rcases h3 with h3 | ⟨a, ha, hc⟩
      · by_cases hcc : mo < g b
        · rw [if_pos hcc] at h3 ⊢
          exact Or.inr ⟨b, List.mem_cons_self, h3⟩
        · rw [if_neg hcc] at h3 ⊢
          exact Or.inl h3
      · exact Or.inr ⟨a, List.mem_cons_of_mem _ ha, hc⟩
theorem mx_eq {as : List Int32} (h : ∀ a ∈ as, okD a) : mxF (fun a => as.count a) as 0 = mxV as 0 10 0 := by
  obtain ⟨-, f2, f3⟩ := mxF_sp (fun a => as.count a) as 0
  obtain ⟨-, v2, v3⟩ := mxV_sp as 10 0 0
  have le1 : mxF (fun a => as.count a) as 0 ≤ mxV as 0 10 0 := by
    rcases f3 with f3 | ⟨a, ha, f3⟩
    · omega
    · obtain ⟨n, hn, e⟩ := h a ha
      rw [f3, e]
      exact v2 n (by omega) (by omega)
  have le2 : mxV as 0 10 0 ≤ mxF (fun a => as.count a) as 0 := by
    rcases v3 with v3 | ⟨x, -, -, v3⟩
    · omega
    · rw [v3]
      by_cases hm : nI x ∈ as
      · exact f2 _ hm
      · rw [List.count_eq_zero.mpr hm]
        exact Nat.zero_le _
  omega
theorem X6_clash_L {μ : Mem} {ls : List LT} {wm dm : Int32} (hM : IsM μ ls wm dm) {as : List Int32} {S : Int32} (hg : ∀ v, fX6_givers S v μ = some (nI (as.count v), μ)) (hl : as.length ≤ 6) (x n : Int32) : ∀ (m fuel v al mo : Nat), v + m = 10 → m < fuel → mo ≤ 6 →
    fX6_clash_L41 x S n fuel (nI al) (nI mo) (nI v) μ = (if x = 0 then some ((n * (n - 1)) / 2 - nI (al + alk as v m), μ) else some (n - nI (mxV as v m mo), μ))
  | 0, fuel + 1, v, al, mo, hv, _, _ => by
    show sX6_clash_L41 (fX6_clash_L41 x S n fuel) x S n (nI al) (nI mo) (nI v) μ = _
    unfold sX6_clash_L41
    rw [if_pos (show 9 < nI v from (lt_nI (a := 9) (by omega) (by omega)).mpr (by omega)), if_pos (show ¬ (2 : Int32) = 0 from by decide)]
    rfl
  | m + 1, fuel + 1, v, al, mo, hv, hf, hmo => by
    show sX6_clash_L41 (fX6_clash_L41 x S n fuel) x S n (nI al) (nI mo) (nI v) μ = _
    unfold sX6_clash_L41
    have hc : as.count (nI v) ≤ 6 := Nat.le_trans List.count_le_length hl
    have h2 := c2_ok ⟨as.count (nI v), by omega⟩
    dsimp only at h2
    rw [if_neg (show ¬ 9 < nI v from fun z => absurd ((lt_nI (a := 9) (by omega) (by omega)).mp z) (by omega)), hg, bnd_s, if_pos (show ¬ (2 : Int32) = 0 from by decide), lti_e, h2, nI_add]
    have e : al + alk as v (m + 1) = al + as.count (nI v) * (as.count (nI v) - 1) / 2 + alk as (v + 1) m := by
      have q : alk as v (m + 1) = c2 (as.count (nI v)) + alk as (v + 1) m := rfl
      rw [q]
      unfold c2
      omega
    rw [e]
    unfold mxV
    by_cases hlt : mo < as.count (nI v)
    · rw [if_neg (fun z => absurd ((le_nI (by omega) (by omega)).mp z) (by omega)), lti_e, nI_1, if_pos hlt]
      exact X6_clash_L hM hg hl x n m fuel (v + 1) _ _ (by omega) (by omega) hc
    · rw [if_pos ((le_nI (by omega) (by omega)).mpr (by omega)), lti_e, nI_1, if_neg hlt]
      exact X6_clash_L hM hg hl x n m fuel (v + 1) _ _ (by omega) (by omega) hmo
  | 0, 0, _, _, _, _, hf, _ => absurd hf (by omega)
  | m + 1, 0, _, _, _, _, hf, _ => absurd hf (by omega)
theorem op_clash (x : Int32) : St (fX5_clash x) (fX6_clash x) := by
  refine St.jk (fun μ ls wm dm rs hR => ?_)
  obtain ⟨⟨hW, hM, hk⟩, -⟩ := hR
  have h6 := hW.1
  by_cases hz : zu x 1 = 0
  · refine ⟨-2, μ, μ, ?_, Jk.rf, ?_, Jk.rf⟩
    · unfold fX5_clash
      rw [isUpTo_eq, bnd_s, if_pos hz]
    · unfold fX6_clash
      rw [within_eq, bnd_s, if_pos hz]
  · by_cases h0 : 0 < ls.length
    · have n0 : ¬ nI ls.length = 0 := fun z => absurd ((zero_iff (by omega)).mp z) (by omega)
      have hl := hrd_len (wm - dm) ls
      obtain ⟨μ', e1, e2⟩ := X6_heardNow hM hk
      have hM1 := hM.o39 e2
      have hp := pc_first ⟨(hrd (wm - dm) ls).length, by omega⟩
      have hbr := bts_range ⟨(hrd (wm - dm) ls).length, by omega⟩
      dsimp only at hp hbr
      have eas : (List.range (hrd (wm - dm) ls).length).map (fun k => adv (lyr ls k)) = sl ls (hrd (wm - dm) ls).length 0 := by
        have q : (List.range (hrd (wm - dm) ls).length).map (lyr ls) = hrd (wm - dm) ls := by
          unfold hrd
          rw [← tw_range (pH (wm - dm)) ls]
          have := HL_map (wm - dm) ls 0 (List.range ls.length)
          rw [seqL0, range_lyr] at this
          unfold HL hrd at this
          rw [filt0] at this
          exact this
        rw [sl_hrd]
        have q2 := congrArg (List.map adv) q
        rw [List.map_map] at q2
        exact q2
      have hgv : ∀ v, fX6_givers (nI (2 ^ (hrd (wm - dm) ls).length - 1)) v μ' = some (nI ((sl ls (hrd (wm - dm) ls).length 0).count v), μ') := by
        intro v
        have := X6_givers hM1 (l := List.range (hrd (wm - dm) ls).length) (range_nd _) (fun k hk => by have := List.mem_range.mp hk; omega) (by rw [hbr]; exact hp.2) v
        rw [hbr, eas] at this
        exact this
      have hll := sl_len hl
      have hc := X6_clash_L hM1 hgv (by omega) x (nI (hrd (wm - dm) ls).length) 10 FU 0 0 0 rfl (by decide) (Nat.zero_le _)
      have hn2 := c2_ok ⟨(hrd (wm - dm) ls).length, by omega⟩
      dsimp only at hn2
      have hpa := prs_alk _ (sl_ok (n := (hrd (wm - dm) ls).length) (k := 0) hk)
      rw [hll] at hpa
      have ea : (n : Nat) → n = (hrd (wm - dm) ls).length → n * (n - 1) / 2 = c2 n := fun _ _ => rfl
      refine ⟨if x = 0 then nI (prs (sl ls (hrd (wm - dm) ls).length 0)) else nI (hrd (wm - dm) ls).length - nI (mxV (sl ls (hrd (wm - dm) ls).length 0) 0 10 0), μ, μ', ?_, Jk.rf, ?_, Jk.o39 e2⟩
      · unfold fX5_clash
        rw [isUpTo_eq, bnd_s, if_neg hz, stands_eq hW, bnd_s, if_neg (by simp [h0, zo])]
        show bnd (some (μ 1 2 - μ 1 3, μ)) _ = _
        rw [bnd_s, hW.2.2.1, hW.2.2.2.1, X4_heardBy hW, bnd_s]
        by_cases hx : x = 0
        · rw [if_pos hx, if_pos hx, X4_unlikeTwos hW hl, bnd_s]
        · rw [if_neg hx, if_neg hx, X4_mostAlike hW hk hl, bnd_s, mx_eq (sl_ok hk)]
      · unfold fX6_clash
        rw [within_eq, bnd_s, if_neg hz, hM.2.1, if_neg n0, e1, bnd_s, X6_size hp.2, bnd_s, hp.1]
        refine Eq.trans hc ?_
        by_cases hx : x = 0
        · rw [if_pos hx, if_pos hx, hn2]
          congr 2
          rw [pk_sub (by unfold c2 at hpa; omega)]
          congr 1
          unfold c2 at hpa
          omega
        · rw [if_neg hx, if_neg hx]
    · have n0 : nI ls.length = 0 := (zero_iff (by omega)).mpr (by omega)
      refine ⟨-3, μ, μ, ?_, Jk.rf, ?_, Jk.rf⟩
      · unfold fX5_clash
        rw [isUpTo_eq, bnd_s, if_neg hz, stands_eq hW, bnd_s, if_pos (by simp [h0, zo])]
      · unfold fX6_clash
        rw [within_eq, bnd_s, if_neg hz, hM.2.1, if_pos n0]
/-! PURE: sheets -/
theorem sheetAt_no {x : Int32} (h : zu x 3 = 0) (μ : Mem) : fX5_sheetAt x μ = some (none, μ) := by
  unfold fX5_sheetAt
  rw [isUpTo_eq, bnd_s, if_pos h]
theorem sheetAt_yes {k : Nat} (hk : k < 4) (h : zu (nI k) 3 = 1) (μ : Mem) : fX5_sheetAt (nI k) μ = some (some (22 + 1 + k), μ) := by
  unfold fX5_sheetAt
  rw [isUpTo_eq, bnd_s, if_neg (zu_n0 h), if_pos (inb_nI hk (by omega)), cl_nI (by omega)]
theorem RR.sh {μ μ' : Mem} {ls : List LT} {wm dm : Int32} {rs : List RT} (h : RR μ ls wm dm rs) (hS : SH μ') (hc : ∀ i, i ≠ 0 → i ≠ 31 → (i < 23 ∨ 31 ≤ i) → (i < 32 ∨ 34 < i) → μ' i = μ i) (hf : ∀ f, f ≠ 0 → μ' 31 f = μ 31 f) (h5 : μ' 0 5 = μ 0 5) (h6 : μ' 0 6 = μ' 31 0) : RR μ' ls wm dm rs := by
  obtain ⟨⟨a1, a2, a3⟩, ⟨b1, b2⟩, -, d, -⟩ := h
  refine ⟨⟨a1.fr (fun i h1 h2 => hc i (by omega) (by omega) (by omega) (by omega)), a2.fr (hf 5 (by decide)) (hf 6 (by decide)) (hf 7 (by decide)) (hc 35 (by omega) (by omega) (by omega) (by omega)) (hc 36 (by omega) (by omega) (by omega) (by omega)) (hc 37 (by omega) (by omega) (by omega) (by omega)), a3⟩, ⟨b1.fr (hc 17 (by omega) (by omega) (by omega) (by omega)) (hc 18 (by omega) (by omega) (by omega) (by omega)) (hc 19 (by omega) (by omega) (by omega) (by omega)), b2.fr (hf 22 (by decide)) (hc 41 (by omega) (by omega) (by omega) (by omega)) (hc 42 (by omega) (by omega) (by omega) (by omega)) (hc 43 (by omega) (by omega) (by omega) (by omega))⟩, hS, ?_, h6⟩
  rw [h5, hf 1 (by decide)]; exact d
/-- sheet k is as told in μ', the others as in μ -/
theorem SH.one {μ μ' : Mem} (h : SH μ) {k : Nat} (hk : k < 4) (hS : okS μ' k) (ho : ∀ j, j < 4 → j ≠ k → μ' (22 + 1 + j) = μ (22 + 1 + j) ∧ μ' (22 + 1 + j + 4) = μ (22 + 1 + j + 4) ∧ μ' 32 j = μ 32 j ∧ μ' 33 j = μ 33 j ∧ ∀ i, i < 60 → μ' 34 (60 * j + i) = μ 34 (60 * j + i)) : SH μ' := by
  intro j hj
  by_cases e : j = k
  · subst e; exact hS
  · obtain ⟨a1, a2, a3, a4, a5⟩ := ho j hj e
    have := h j hj
    unfold okS at *
    rw [a1, a2, a3, a4]
    exact ⟨this.1, fun i hi => by rw [a5 i hi]; exact this.2 i hi⟩
theorem op_lose (x : Int32) : St (fX5_lose x) (fX6_lose x) := by
  rintro μ ⟨ls, wm, dm, rs, hR⟩
  have hR' := hR
  obtain ⟨-, -, hS, -, hfl⟩ := hR
  rcases zu_3 x with hz | ⟨hz, k, hk, rfl⟩
  · refine ⟨-1, μ, μ, ?_, ?_, ls, wm, dm, rs, hR'⟩
    · unfold fX5_lose
      rw [sheetAt_no hz, bnd_s, oe_n]
    · unfold fX6_lose
      rw [isSheet_eq, bnd_s, if_pos hz]
  · have hk4 : k < 4 := by omega
    have hi : inb (nI k) 4 := inb_nI hk4 (by omega)
    have fin : RR (up2 (up2 μ (22 + 1 + k) 1 0) 32 k (-9)) ls wm dm rs := by
      refine hR'.sh (hS.one hk4 ⟨Or.inl ⟨?_, ?_⟩, fun i hi => ?_⟩ (fun j hj hne => ⟨?_, ?_, ?_, ?_, fun i hi => ?_⟩)) (fun i h1 h2 h3 h4 => ?_) (fun f hf => ?_) ?_ ?_
      · rw [up2_n _ _ _ (by omega), up2_ks]
      · rw [up2_ks]
      · rw [up2_n _ _ _ (by omega), up2_n _ _ _ (by omega), up2_n _ _ _ (by omega), up2_n _ _ _ (by omega)]
        exact (hS k hk4).2 i hi
      · rw [up2_n _ _ _ (by omega), up2_n _ _ _ (by omega)]
      · rw [up2_n _ _ _ (by omega), up2_n _ _ _ (by omega)]
      · rw [up2_kn _ _ hne, up2_n _ _ _ (by omega)]
      · rw [up2_n _ _ _ (by omega), up2_n _ _ _ (by omega)]
      · rw [up2_n _ _ _ (by omega), up2_n _ _ _ (by omega)]
      · rw [up2_n _ _ _ (by omega), up2_n _ _ _ (by omega)]
      · rw [up2_n _ _ _ (by omega), up2_n _ _ _ (by omega)]
      · rw [up2_n _ _ _ (by omega), up2_n _ _ _ (by omega)]
      · rw [up2_n _ _ _ (by omega), up2_n _ _ _ (by omega), up2_n _ _ _ (by omega), up2_n _ _ _ (by omega)]
        exact hfl
    have g32 : up2 μ (22 + 1 + k) 1 0 32 = μ 32 := up2_n _ _ _ (by omega)
    rcases (hS k hk4).1 with ⟨h1, h2⟩ | ⟨h1, h2, ⟨v, hv, ev⟩, -⟩
    · refine ⟨0, up2 μ (22 + 1 + k) 1 0, _, ?_, ?_, ls, wm, dm, rs, fin⟩
      · unfold fX5_lose
        rw [sheetAt_yes hk4 hz, bnd_s, oe_s, if_pos h1, ltm_e]
      · unfold fX6_lose
        rw [isSheet_eq, bnd_s, if_neg (zu_n0 hz), if_pos hi, cl_nI (by omega), g32, if_pos h2, if_pos hi, ltm_e]
    · have ne : ¬ μ 32 k = -9 := by rw [h2, ev]; exact enO_ne (by omega)
      refine ⟨1, up2 μ (22 + 1 + k) 1 0, _, ?_, ?_, ls, wm, dm, rs, fin⟩
      · unfold fX5_lose
        rw [sheetAt_yes hk4 hz, bnd_s, oe_s, h1, if_neg (by decide), ltm_e]
      · unfold fX6_lose
        rw [isSheet_eq, bnd_s, if_neg (zu_n0 hz), if_pos hi, cl_nI (by omega), g32, if_neg ne, if_pos hi, ltm_e]
