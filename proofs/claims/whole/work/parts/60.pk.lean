/-! PURE: the fewest to be taken out; odds; clash -/
def bcA (x : Int32) : Int32 := x - ((x.toUInt32 >>> ((1 : Int32).toUInt32 &&& Int32.toUInt32 31)).toInt32 &&& (1431655765 : Int32))
def bcE (y : Int32) : Int32 := (y &&& (858993459 : Int32)) + ((y.toUInt32 >>> ((2 : Int32).toUInt32 &&& Int32.toUInt32 31)).toInt32 &&& (858993459 : Int32))
def bcF (y : Int32) : Int32 := (y + (y.toUInt32 >>> ((4 : Int32).toUInt32 &&& Int32.toUInt32 31)).toInt32) &&& (252645135 : Int32)
def bcG (y : Int32) : Int32 := y + (y.toUInt32 >>> ((8 : Int32).toUInt32 &&& Int32.toUInt32 31)).toInt32
def bcH (y : Int32) : Int32 := y + (y.toUInt32 >>> ((16 : Int32).toUInt32 &&& Int32.toUInt32 31)).toInt32
theorem bitCount_eq (x : Int32) (μ : Mem) : fJ6_bitCount_0f7a4 x μ = some (bcH (bcG (bcF (bcE (bcA x)))) &&& 63, μ) := rfl
theorem bitCount_64 : ∀ k : Fin 64, bcH (bcG (bcF (bcE (bcA (nI k.val))))) &&& 63 = nI (pcR 6 k.val) := by decide +kernel
theorem X_bitCount {k : Nat} (h : k < 64) (μ : Mem) : fJ6_bitCount_0f7a4 (nI k) μ = some (nI (pcR 6 k), μ) := by
  rw [bitCount_eq]
  have := bitCount_64 ⟨k, h⟩
  dsimp only at this
  rw [this]
theorem pcR_le : ∀ m x, pcR m x ≤ m
  | 0, _ => Nat.le_refl _
  | m + 1, x => by
    unfold pcR
    have := pcR_le m (x / 2)
    omega
def enO (o : Option Nat) : Int32 := match o with
  | none => -9
  | some b => nI b
def woF (C : Nat → Bool) : Nat → Nat → Option Nat → Option Nat
  | _, 0, best => best
  | out, m + 1, best => woF C (out + 1) m (match best with
    | none => if C out then some out else none
    | some b => if pcR 6 b ≤ pcR 6 out then some b else if C out then some out else some b)
theorem one_shl : ∀ n : Fin 7, ((1 : Int32) <<< (nI n.val &&& 31)) = nI (2 ^ n.val) ∧ 2 ^ n.val ≤ 64 := by decide +kernel
theorem enO_none : enO none = -9 := rfl
theorem enO_ne {b : Nat} (h : b < 64) : ¬ nI b = -9 := by
  have : ∀ b : Fin 64, ¬ nI b.val = -9 := by decide +kernel
  exact this ⟨b, h⟩
def woC (ls : List LT) (W v : Int32) (out : Nat) : Bool := decide (cnsl W (seqL ls out (List.range ls.length)) = v)
theorem okW_seq {ls : List LT} (hk : okW ls) (out : Nat) : okW (seqL ls out (List.range ls.length)) := by
  intro t ht
  unfold seqL at ht
  obtain ⟨k, hk2, rfl⟩ := List.mem_map.mp ht
  exact hk _ (lyr_mem (List.mem_range.mp (List.mem_filter.mp hk2).1))
theorem X5_without_L {ls : List LT} {wm dm : Int32} (hk : okW ls) (v : Int32) : ∀ (m fuel out : Nat) (best : Option Nat) (μ : Mem), out + m = 2 ^ ls.length → m < fuel → (∀ b, best = some b → b < 64) → IsW μ 1 ls wm dm →
    ∃ μ', fX5_without_L30 v fuel (enO best) (nI out) μ = some (enO (woF (woC ls (wm - dm) v) out m best), μ') ∧ FrW μ μ' 9 := by
  intro m
  induction m with
  | zero =>
    intro fuel out best μ ho hf hb hW
    have h6 := hW.1
    have hs := one_shl ⟨ls.length, by omega⟩
    dsimp only at hs
    obtain ⟨fuel, rfl⟩ : ∃ f, fuel = f + 1 := ⟨fuel - 1, by omega⟩
    refine ⟨μ, ?_, FrW.rf⟩
    show sX5_without_L30 (fX5_without_L30 v fuel) v (enO best) (nI out) μ = _
    unfold sX5_without_L30
    rw [hW.2.1, hs.1, if_pos ((le_nI (by omega) (by omega)).mpr (by omega))]
    rfl
  | succ m ih =>
    intro fuel out best μ ho hf hb hW
    have h6 := hW.1
    have hs := one_shl ⟨ls.length, by omega⟩
    dsimp only at hs
    obtain ⟨fuel, rfl⟩ : ∃ f, fuel = f + 1 := ⟨fuel - 1, by omega⟩
    have ho64 : out < 64 := by omega
    show ∃ μ', sX5_without_L30 (fX5_without_L30 v fuel) v (enO best) (nI out) μ = _ ∧ _
    unfold sX5_without_L30
    rw [hW.2.1, hs.1, if_neg (fun z => absurd ((le_nI (by omega) (by omega)).mp z) (by omega))]
    obtain ⟨μ1, e1, e2, e3⟩ := X4_becomeLess ho64 hW
    have hW1 : IsW μ1 1 ls wm dm := hW.fr (fun i h1 h2 => e3 i (by omega))
    have ecb : bnd (fX4_warmth 9 μ1) (fun r_12 μ_10 => fX4_counselBy 9 r_12 μ_10) = some (cnsl (wm - dm) (seqL ls out (List.range ls.length)), μ1) := by
      show bnd (some (μ1 9 2 - μ1 9 3, μ1)) _ = _
      rw [bnd_s, e2.2.2.1, e2.2.2.2.1, X4_counselBy e2 (okW_seq hk out)]
    have ew : fX4_warmth 9 μ1 = some (wm - dm, μ1) := by
      show some (μ1 9 2 - μ1 9 3, μ1) = _
      rw [e2.2.2.1, e2.2.2.2.1]
    have ec := X4_counselBy e2 (okW_seq hk out) (wm - dm)
    cases best with
    | none =>
      rw [if_pos enO_none, e1, bnd_s, ew, bnd_s, ec, bnd_s]
      unfold woF
      by_cases hc : cnsl (wm - dm) (seqL ls out (List.range ls.length)) = v
      · have hC : woC ls (wm - dm) v out = true := decide_eq_true hc
        rw [if_pos hc, lti_e, nI_1]
        obtain ⟨μ', g1, g2⟩ := ih fuel (out + 1) (some out) μ1 (by omega) (by omega) (fun b hb => by cases hb; exact ho64) hW1
        refine ⟨μ', ?_, e3.tr g2⟩
        simp only [hC, if_true]
        exact g1
      · have hC : woC ls (wm - dm) v out = false := decide_eq_false hc
        rw [if_neg hc, lti_e, nI_1]
        obtain ⟨μ', g1, g2⟩ := ih fuel (out + 1) none μ1 (by omega) (by omega) hb hW1
        refine ⟨μ', ?_, e3.tr g2⟩
        simp only [hC]
        exact g1
    | some b =>
      have hb64 := hb b rfl
      have p1 := pcR_le 6 b
      have p2 := pcR_le 6 out
      rw [if_neg (show ¬ enO (some b) = -9 from enO_ne hb64), X_bitCount ho64, bnd_s]
      show ∃ μ', bnd (fJ6_bitCount_0f7a4 (nI b) μ) _ = _ ∧ _
      rw [X_bitCount hb64, bnd_s]
      unfold woF
      by_cases hle : pcR 6 b ≤ pcR 6 out
      · rw [if_pos ((le_nI (by omega) (by omega)).mpr hle), lti_e, nI_1]
        obtain ⟨μ', g1, g2⟩ := ih fuel (out + 1) (some b) μ (by omega) (by omega) hb hW
        refine ⟨μ', ?_, g2⟩
        simp only [hle, if_true]
        exact g1
      · rw [if_neg (fun z => hle ((le_nI (by omega) (by omega)).mp z)), e1, bnd_s, ew, bnd_s, ec, bnd_s]
        by_cases hc : cnsl (wm - dm) (seqL ls out (List.range ls.length)) = v
        · have hC : woC ls (wm - dm) v out = true := decide_eq_true hc
          rw [if_pos hc, lti_e, nI_1]
          obtain ⟨μ', g1, g2⟩ := ih fuel (out + 1) (some out) μ1 (by omega) (by omega) (fun b hb => by cases hb; exact ho64) hW1
          refine ⟨μ', ?_, e3.tr g2⟩
          simp only [hle, if_false, hC, if_true]
          exact g1
        · have hC : woC ls (wm - dm) v out = false := decide_eq_false hc
          rw [if_neg hc, lti_e, nI_1]
          obtain ⟨μ', g1, g2⟩ := ih fuel (out + 1) (some b) μ1 (by omega) (by omega) hb hW1
          refine ⟨μ', ?_, e3.tr g2⟩
          simp only [hle, if_false, hC]
          exact g1
theorem X6_without_L {ls : List LT} {wm dm : Int32} (hk : okW ls) (v : Int32) {μ : Mem} (hM : IsM μ ls wm dm) (hO : IsO μ (List.range ls.length)) : ∀ (m fuel out : Nat) (best : Option Nat), out + m = 2 ^ ls.length → m < fuel → (∀ b, best = some b → b < 64) →
    fX6_without_L29 v fuel (enO best) (nI out) μ = some (enO (woF (woC ls (wm - dm) v) out m best), μ) := by
  have h6 := hM.1
  have hs := one_shl ⟨ls.length, by omega⟩
  dsimp only at hs
  intro m
  induction m with
  | zero =>
    intro fuel out best ho hf hb
    obtain ⟨fuel, rfl⟩ : ∃ f, fuel = f + 1 := ⟨fuel - 1, by omega⟩
    show sX6_without_L29 (fX6_without_L29 v fuel) v (enO best) (nI out) μ = _
    unfold sX6_without_L29
    rw [hM.2.1, hs.1, if_pos ((le_nI (by omega) (by omega)).mpr (by omega))]
    rfl
  | succ m ih =>
    intro fuel out best ho hf hb
    obtain ⟨fuel, rfl⟩ : ∃ f, fuel = f + 1 := ⟨fuel - 1, by omega⟩
    have ho64 : out < 64 := by omega
    show sX6_without_L29 (fX6_without_L29 v fuel) v (enO best) (nI out) μ = _
    unfold sX6_without_L29
    rw [hM.2.1, hs.1, if_neg (fun z => absurd ((le_nI (by omega) (by omega)).mp z) (by omega)), hM.2.2.1, hM.2.2.2.1]
    have ec := X6_counselBy hM hk hO List.length_range (fun k hk => List.mem_range.mp hk) (range_nd _) wm dm ho64
    cases best with
    | none =>
      rw [if_pos enO_none, ec, bnd_s]
      unfold woF
      by_cases hc : cnsl (wm - dm) (seqL ls out (List.range ls.length)) = v
      · have hC : woC ls (wm - dm) v out = true := decide_eq_true hc
        rw [if_pos hc, lti_e, nI_1]
        simp only [hC, if_true]
        exact ih fuel (out + 1) (some out) (by omega) (by omega) (fun b hb => by cases hb; exact ho64)
      · have hC : woC ls (wm - dm) v out = false := decide_eq_false hc
        rw [if_neg hc, lti_e, nI_1]
        simp only [hC]
        exact ih fuel (out + 1) none (by omega) (by omega) hb
    | some b =>
      have hb64 := hb b rfl
      have p1 := pcR_le 6 b
      have p2 := pcR_le 6 out
      rw [if_neg (show ¬ enO (some b) = -9 from enO_ne hb64), X6_size ho64, bnd_s]
      show bnd (fX6_size (nI b) μ) _ = _
      rw [X6_size hb64, bnd_s]
      unfold woF
      by_cases hle : pcR 6 b ≤ pcR 6 out
      · rw [if_pos ((le_nI (by omega) (by omega)).mpr hle), lti_e, nI_1]
        simp only [hle, if_true]
        exact ih fuel (out + 1) (some b) (by omega) (by omega) hb
      · rw [if_neg (fun z => hle ((le_nI (by omega) (by omega)).mp z)), hM.2.2.1, hM.2.2.2.1, ec, bnd_s]
        by_cases hc : cnsl (wm - dm) (seqL ls out (List.range ls.length)) = v
        · have hC : woC ls (wm - dm) v out = true := decide_eq_true hc
          rw [if_pos hc, lti_e, nI_1]
          simp only [hle, if_false, hC, if_true]
          exact ih fuel (out + 1) (some out) (by omega) (by omega) (fun b hb => by cases hb; exact ho64)
        · have hC : woC ls (wm - dm) v out = false := decide_eq_false hc
          rw [if_neg hc, lti_e, nI_1]
          simp only [hle, if_false, hC]
          exact ih fuel (out + 1) (some b) (by omega) (by omega) hb
theorem op_without (v : Int32) : St (fX5_without v) (fX6_without v) := by
  refine St.jk (fun μ ls wm dm rs hR => ?_)
  obtain ⟨⟨hW, hM, hk⟩, -⟩ := hR
  have h6 := hW.1
  have hs := one_shl ⟨ls.length, by omega⟩
  dsimp only at hs
  by_cases hz : zu v 9 = 0
  · refine ⟨-2, μ, μ, ?_, Jk.rf, ?_, Jk.rf⟩
    · unfold fX5_without
      rw [isUpTo_eq, bnd_s, if_pos hz]
    · unfold fX6_without
      rw [isDigit_eq, bnd_s, if_pos hz]
  · by_cases h0 : 0 < ls.length
    · have n0 : ¬ nI ls.length = 0 := fun z => absurd ((zero_iff (by omega)).mp z) (by omega)
      obtain ⟨μ1, e1, e2⟩ := X5_without_L hk v (2 ^ ls.length) FU 0 none μ (Nat.zero_add _) (by show _ < 1000; omega) (fun b hb => by cases hb) hW
      have hM1 := hM.jk (Jk.w9 e2)
      obtain ⟨μ2, o1, o2, o3⟩ := X6_orderAsIs hM1
      refine ⟨enO (woF (woC ls (wm - dm) v) 0 (2 ^ ls.length) none), μ1, μ2, ?_, Jk.w9 e2, ?_, Jk.o39 o3⟩
      · unfold fX5_without
        rw [isUpTo_eq, bnd_s, if_neg hz, stands_eq hW, bnd_s, if_neg (by simp [h0, zo])]
        exact e1
      · unfold fX6_without
        rw [isDigit_eq, bnd_s, if_neg hz, hM1.2.1, if_neg n0, o1, bnd_s]
        exact X6_without_L hk v (hM1.o39 o3) o2 (2 ^ ls.length) FU 0 none (Nat.zero_add _) (by show _ < 1000; omega) (fun b hb => by cases hb)
    · have n0 : nI ls.length = 0 := (zero_iff (by omega)).mpr (by omega)
      refine ⟨-3, μ, μ, ?_, Jk.rf, ?_, Jk.rf⟩
      · unfold fX5_without
        rw [isUpTo_eq, bnd_s, if_neg hz, stands_eq hW, bnd_s, if_pos (by simp [h0, zo])]
      · unfold fX6_without
        rw [isDigit_eq, bnd_s, if_neg hz, hM.2.1, if_pos n0]
/-! odds -/
def gsN (g : Nat) : Nat → Nat
  | 0 => 1
  | d + 1 => if d + 1 ≤ 1 then 1 else if g % (d + 1) = 0 ∧ 21 % (d + 1) = 0 then d + 1 else gsN g d
theorem X5_gs_L {g : Nat} (hg : g ≤ 21) (μ : Mem) : ∀ (fuel d : Nat), d < fuel → d ≤ 21 → 0 < d → fX5_greatestShared_L2 (nI g) 21 fuel (nI d) μ = some (nI (gsN g d), μ) := by
  intro fuel
  induction fuel with
  | zero => intro d h; omega
  | succ fuel ih =>
    intro d hf hd h0
    obtain ⟨d, rfl⟩ : ∃ e, d = e + 1 := ⟨d - 1, by omega⟩
    show sX5_greatestShared_L2 (fX5_greatestShared_L2 (nI g) 21 fuel) (nI g) 21 (nI (d + 1)) μ = _
    unfold sX5_greatestShared_L2 gsN
    by_cases h1 : d + 1 ≤ 1
    · rw [if_pos (show nI (d + 1) ≤ 1 from (le_nI (b := 1) (by omega) (by omega)).mpr h1), if_pos h1]
      rfl
    · have nz : ¬ nI (d + 1) = 0 := fun z => absurd ((zero_iff (by omega)).mp z) (by omega)
      rw [if_neg (show ¬ nI (d + 1) ≤ 1 from fun z => h1 ((le_nI (b := 1) (by omega) (by omega)).mp z)), if_pos nz, if_neg h1, pk_rem (by omega) (by omega) (by omega)]
      have e21 : (21 : Int32) - 21 / nI (d + 1) * nI (d + 1) = nI (21 % (d + 1)) := pk_rem (a := 21) (by omega) (by omega) (by omega)
      have m1 : g % (d + 1) ≤ g := Nat.mod_le _ _
      have m2 : 21 % (d + 1) ≤ 21 := Nat.mod_le _ _
      by_cases ha : g % (d + 1) = 0
      · rw [if_pos (by rw [ha]; rfl), if_pos nz, e21]
        by_cases hb : 21 % (d + 1) = 0
        · rw [if_pos (by rw [hb]; rfl), if_pos ⟨ha, hb⟩]
        · rw [if_neg (fun z => hb ((zero_iff (by omega)).mp z)), if_neg (fun z => hb z.2), lti_e, pk_m1]
          exact ih d (by omega) (by omega) (by omega)
      · rw [if_neg (fun z => ha ((zero_iff (by omega)).mp z)), if_neg (fun z => ha z.1), lti_e, pk_m1]
        exact ih d (by omega) (by omega) (by omega)
def euN : Nat → Nat → Nat → Nat
  | 0, x, _ => x
  | m + 1, x, y => if y = 0 then x else euN m y (x % y)
theorem lcmp0 : ∀ y : Fin 22, lg_cmp (lN y.val) 0 = 0 ↔ y.val = 0 := by decide +kernel
theorem lN_0 {n : Nat} (h : n < 2 ^ 31) : lN n = 0 ↔ n = 0 := lN_eq (b := 0) h (by omega)
theorem X6_eu_L {g : Nat} (hg : g ≤ 21) (w : Int32) (μ : Mem) : ∀ (m fuel x y : Nat), y < m → m < fuel → x ≤ 21 → y ≤ 21 → (y = 0 → 0 < x) → fX6_inLeastTerms_L6 (lN g) 21 w fuel (lN x) (lN y) μ = some (if w = 0 then lN (g / euN m x y) else lN (21 / euN m x y), μ)
  | 0, _, _, _, h, _, _, _, _ => absurd h (by omega)
  | m + 1, 0, _, _, _, h, _, _, _ => absurd h (by omega)
  | m + 1, fuel + 1, x, y, hy, hf, hx, hy2, h0 => by
    show sX6_inLeastTerms_L6 (fX6_inLeastTerms_L6 (lN g) 21 w fuel) (lN g) 21 w (lN x) (lN y) μ = _
    unfold sX6_inLeastTerms_L6 euN
    have hc := lcmp0 ⟨y, by omega⟩
    dsimp only at hc
    by_cases hz : y = 0
    · have hx0 := h0 hz
      have nx : ¬ lN x = 0 := fun z => absurd ((lN_0 (by omega)).mp z) (by omega)
      rw [if_pos (hc.mpr hz), if_pos hz, if_pos nx, if_pos nx, pk_lDiv (by omega) hx0 (by omega)]
      have e21 : (21 : Int64) / lN x = lN (21 / x) := pk_lDiv (a := 21) (by omega) hx0 (by omega)
      rw [e21]
      split <;> rfl
    · have ny : ¬ lN y = 0 := fun z => hz ((lN_0 (by omega)).mp z)
      rw [if_neg (fun z => hz (hc.mp z)), if_neg hz, if_pos ny, ltl_e, pk_lRem (by omega) (by omega) (by omega)]
      have hm := Nat.mod_lt x (show 0 < y by omega)
      exact X6_eu_L hg w μ m fuel y (x % y) (by omega) (by omega) hy2 (by omega) (fun _ => by omega)
theorem gs_eu : ∀ g : Fin 22, gsN g.val 21 = euN 22 g.val 21 ∧ 0 < gsN g.val 21 ∧ gsN g.val 21 ≤ 21 := by decide +kernel
def gdC (ls : List LT) (dm : Int32) (k : Nat) : Nat → Nat → Nat → Nat
  | _, 0, n => n
  | a, m + 1, n => gdC ls dm k (a + 1) m (if k < (hrd (nI a - dm) ls).length then n + 1 else n)
theorem X5_odds_L {μ : Mem} {ls : List LT} {wm dm : Int32} (h : IsW μ 1 ls wm dm) {k : Nat} (hk : k < ls.length) (w : Int32) : ∀ (m fuel a n : Nat), a + m = 21 → m < fuel → n ≤ a → fX5_odds_L32 (nI k) w 21 fuel (nI n) (nI a) μ = some (if w = 0 then lN (gdC ls dm k a m n / gsN (gdC ls dm k a m n) 21) else lN (21 / gsN (gdC ls dm k a m n) 21), μ)
  | 0, fuel + 1, a, n, ha, _, hn => by
    show sX5_odds_L32 (fX5_odds_L32 (nI k) w 21 fuel) (nI k) w 21 (nI n) (nI a) μ = _
    unfold sX5_odds_L32
    rw [if_pos (show 20 < nI a from (lt_nI (a := 20) (by omega) (by omega)).mpr (by omega))]
    have hgs := gs_eu ⟨n, by omega⟩
    dsimp only at hgs
    have eg : fX5_greatestShared (nI n) 21 μ = some (nI (gsN n 21), μ) := X5_gs_L (by omega) μ FU 21 (by decide) (by omega) (by omega)
    have nz : ¬ nI (gsN n 21) = 0 := fun z => absurd ((zero_iff (by omega)).mp z) (by omega)
    rw [eg, bnd_s, if_pos nz, if_pos nz, pk_div (by omega) hgs.2.1 (by omega)]
    have e21 : (21 : Int32) / nI (gsN n 21) = nI (21 / gsN n 21) := pk_div (a := 21) (by omega) hgs.2.1 (by omega)
    have d1 : n / gsN n 21 ≤ n := Nat.div_le_self _ _
    have d2 : 21 / gsN n 21 ≤ 21 := Nat.div_le_self _ _
    rw [e21, nI_l (by omega), nI_l (by omega)]
    simp only [gdC]
    split <;> rfl
  | m + 1, fuel + 1, a, n, ha, hf, hn => by
    have h6 := h.1
    have hl := hrd_len (nI a - dm) ls
    show sX5_odds_L32 (fX5_odds_L32 (nI k) w 21 fuel) (nI k) w 21 (nI n) (nI a) μ = _
    unfold sX5_odds_L32
    rw [if_neg (show ¬ 20 < nI a from fun z => absurd ((lt_nI (a := 20) (by omega) (by omega)).mp z) (by omega)), h.2.2.2.1, X4_heardBy h, bnd_s]
    simp only [gdC]
    by_cases hlt : k < (hrd (nI a - dm) ls).length
    · rw [if_neg (fun z => absurd ((le_nI (by omega) (by omega)).mp z) (by omega)), if_pos hlt, lti_e, lti_e, nI_1, nI_1]
      exact X5_odds_L h hk w m fuel (a + 1) (n + 1) (by omega) (by omega) (by omega)
    · rw [if_pos ((le_nI (by omega) (by omega)).mpr (by omega)), if_neg hlt, lti_e, nI_1]
      exact X5_odds_L h hk w m fuel (a + 1) n (by omega) (by omega) (by omega)
  | 0, 0, _, _, _, hf, _ => absurd hf (by omega)
  | m + 1, 0, _, _, _, hf, _ => absurd hf (by omega)
theorem X6_odds_L {μ : Mem} {ls : List LT} {wm dm : Int32} (h : IsM μ ls wm dm) (hok : okW ls) (ho : IsO μ (List.range ls.length)) {k : Nat} (hk : k < ls.length) (w : Int32) : ∀ (m fuel a n : Nat), a + m = 21 → m < fuel → n ≤ a → fX6_odds_L30 (nI k) w fuel (nI n) (nI a) μ = some (if w = 0 then lN (gdC ls dm k a m n / gsN (gdC ls dm k a m n) 21) else lN (21 / gsN (gdC ls dm k a m n) 21), μ)
  | 0, fuel + 1, a, n, ha, _, hn => by
    show sX6_odds_L30 (fX6_odds_L30 (nI k) w fuel) (nI k) w (nI n) (nI a) μ = _
    unfold sX6_odds_L30
    rw [if_pos (show 20 < nI a from (lt_nI (a := 20) (by omega) (by omega)).mpr (by omega))]
    have hgs := gs_eu ⟨n, by omega⟩
    dsimp only at hgs
    have eg := X6_eu_L (g := n) (by omega) w μ 22 FU n 21 (by decide) (by decide) (by omega) (by omega) (fun z => by omega)
    unfold fX6_inLeastTerms
    rw [nI_l (by omega)]
    show bnd (fX6_inLeastTerms_L6 (lN n) 21 w FU (lN n) (lN 21) μ) _ = _
    rw [eg, bnd_s]
    simp only [gdC]
    rw [hgs.1]
  | m + 1, fuel + 1, a, n, ha, hf, hn => by
    have h6 := h.1
    have hl := hrd_len (nI a - dm) ls
    show sX6_odds_L30 (fX6_odds_L30 (nI k) w fuel) (nI k) w (nI n) (nI a) μ = _
    unfold sX6_odds_L30
    have hb := bit_first ⟨(hrd (nI a - dm) ls).length, by omega⟩ ⟨k, by omega⟩
    dsimp only at hb
    rw [if_neg (show ¬ 20 < nI a from fun z => absurd ((lt_nI (a := 20) (by omega) (by omega)).mp z) (by omega)), h.2.2.2.1, X6_heardIdx h hok ho, bnd_s, hb]
    simp only [gdC]
    by_cases hlt : k < (hrd (nI a - dm) ls).length
    · rw [if_pos hlt, if_pos hlt, lti_e, lti_e, nI_1, nI_1]
      exact X6_odds_L h hok ho hk w m fuel (a + 1) (n + 1) (by omega) (by omega) (by omega)
    · rw [if_neg hlt, if_neg hlt, lti_e, lti_e, nI_1, show nI n + 0 = nI n from by rw [show (0 : Int32) = nI 0 from rfl, nI_add]; rfl]
      exact X6_odds_L h hok ho hk w m fuel (a + 1) n (by omega) (by omega) (by omega)
  | 0, 0, _, _, _, hf, _ => absurd hf (by omega)
  | m + 1, 0, _, _, _, hf, _ => absurd hf (by omega)
theorem op_odds (x w : Int32) : St (fX5_odds x w) (fX6_odds x w) := by
  refine St.jk (fun μ ls wm dm rs hR => ?_)
  obtain ⟨⟨hW, hM, hk⟩, -⟩ := hR
  have h6 := hW.1
  rcases lay_cs x ls.length h6 with ⟨k, hkl, rfl⟩ | hno
  · by_cases hz : zu w 1 = 0
    · refine ⟨-9223372036854775808, μ, μ, ?_, Jk.rf, ?_, Jk.rf⟩
      · unfold fX5_odds
        rw [X4_layerAt hW hkl, bnd_s, oe_s, isUpTo_eq, bnd_s, if_pos hz]
      · unfold fX6_odds
        rw [isLayer_yes hM hkl, bnd_s, if_neg (by decide), within_eq, bnd_s, if_pos hz]
    · obtain ⟨μ2, o1, o2, o3⟩ := X6_orderAsIs hM
      refine ⟨if w = 0 then lN (gdC ls dm k 0 21 0 / gsN (gdC ls dm k 0 21 0) 21) else lN (21 / gsN (gdC ls dm k 0 21 0) 21), μ, μ2, ?_, Jk.rf, ?_, Jk.o39 o3⟩
      · unfold fX5_odds
        rw [X4_layerAt hW hkl, bnd_s, oe_s, isUpTo_eq, bnd_s, if_neg hz]
        exact X5_odds_L hW hkl w 21 FU 0 0 rfl (by decide) (Nat.le_refl _)
      · unfold fX6_odds
        rw [isLayer_yes hM hkl, bnd_s, if_neg (by decide), within_eq, bnd_s, if_neg hz, o1, bnd_s]
        exact X6_odds_L (hM.o39 o3) hk o2 hkl w 21 FU 0 0 rfl (by decide) (Nat.le_refl _)
  · refine ⟨-9223372036854775808, μ, μ, ?_, Jk.rf, ?_, Jk.rf⟩
    · unfold fX5_odds
      rw [X4_layerNo hW hno, bnd_s, oe_n]
    · unfold fX6_odds
      rw [isLayer_no hM hno, bnd_s, if_pos rfl]
