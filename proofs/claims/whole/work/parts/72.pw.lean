/-! PURE: the law's loop -/
theorem lcmp_self (r : Int64) : lg_cmp r r = 0 := by
  unfold lg_cmp
  rw [if_neg (show ¬ r > r from fun h => absurd (Int64.lt_iff_toInt_lt.mp h) (by omega)), if_pos rfl]
theorem at_inb {q L k : Nat} (hk : k < 6) (hq : q + 6 ≤ L) (hL : L ≤ 384) : inb (nI q + nI k) L := by
  rw [nI_add]
  exact inb_nI (by omega) (by omega)
theorem law_c0 {xs : Nat → Int32} {L q : Nat} {K : Int32 → Mem → Option (Int32 × Mem)} {μ : Mem} (hq : q + 6 ≤ L) (hL : L ≤ 384) (hK : ∀ μ, Rx μ → ∃ μ', K (nI (q + 6)) μ = some (1, μ')) (hR : Rx μ) : ∃ μ', cL_0 xs L K (nI q) μ = some (1, μ') := by
  obtain ⟨r, μ1, μ2, e1, e2, h⟩ := op_wall (xs (nI q + (1 : Int32)).toNatClampNeg) (xs (nI q + (2 : Int32)).toNatClampNeg) (xs (nI q + (3 : Int32)).toNatClampNeg) (xs (nI q + (4 : Int32)).toNatClampNeg) μ hR
  have i1 : inb (nI q + (1 : Int32)) L := at_inb (k := 1) (by decide) hq hL
  have i2 : inb (nI q + (2 : Int32)) L := at_inb (k := 2) (by decide) hq hL
  have i3 : inb (nI q + (3 : Int32)) L := at_inb (k := 3) (by decide) hq hL
  have i4 : inb (nI q + (4 : Int32)) L := at_inb (k := 4) (by decide) hq hL
  unfold cL_0
  simp only [if_pos i1, if_pos i2, if_pos i3, if_pos i4]
  rw [e1, bnd_s, e2, bnd_s, if_pos rfl, lti_e, show nI q + (6 : Int32) = nI (q + 6) from nI_add q 6]
  exact hK μ2 h
theorem law_c1 {xs : Nat → Int32} {L q : Nat} {K : Int32 → Mem → Option (Int32 × Mem)} {μ : Mem} (hq : q + 6 ≤ L) (hL : L ≤ 384) (hK : ∀ μ, Rx μ → ∃ μ', K (nI (q + 6)) μ = some (1, μ')) (hR : Rx μ) : ∃ μ', cL_1 xs L K (nI q) μ = some (1, μ') := by
  obtain ⟨r, μ1, μ2, e1, e2, h⟩ := op_ofLayer (xs (nI q + (1 : Int32)).toNatClampNeg) (xs (nI q + (2 : Int32)).toNatClampNeg) μ hR
  have i1 : inb (nI q + (1 : Int32)) L := at_inb (k := 1) (by decide) hq hL
  have i2 : inb (nI q + (2 : Int32)) L := at_inb (k := 2) (by decide) hq hL
  unfold cL_1
  simp only [if_pos i1, if_pos i2]
  rw [e1, bnd_s, e2, bnd_s, if_pos rfl, lti_e, show nI q + (6 : Int32) = nI (q + 6) from nI_add q 6]
  exact hK μ2 h
theorem law_c2 {xs : Nat → Int32} {L q : Nat} {K : Int32 → Mem → Option (Int32 × Mem)} {μ : Mem} (hq : q + 6 ≤ L) (hL : L ≤ 384) (hK : ∀ μ, Rx μ → ∃ μ', K (nI (q + 6)) μ = some (1, μ')) (hR : Rx μ) : ∃ μ', cL_2 xs L K (nI q) μ = some (1, μ') := by
  obtain ⟨r, μ1, μ2, e1, e2, h⟩ := op_heat (xs (nI q + (1 : Int32)).toNatClampNeg) μ hR
  have i1 : inb (nI q + (1 : Int32)) L := at_inb (k := 1) (by decide) hq hL
  unfold cL_2
  simp only [if_pos i1]
  rw [e1, bnd_s, e2, bnd_s, if_pos rfl, lti_e, show nI q + (6 : Int32) = nI (q + 6) from nI_add q 6]
  exact hK μ2 h
theorem law_c3 {xs : Nat → Int32} {L q : Nat} {K : Int32 → Mem → Option (Int32 × Mem)} {μ : Mem} (hq : q + 6 ≤ L) (hL : L ≤ 384) (hK : ∀ μ, Rx μ → ∃ μ', K (nI (q + 6)) μ = some (1, μ')) (hR : Rx μ) : ∃ μ', cL_3 xs L K (nI q) μ = some (1, μ') := by
  obtain ⟨r, μ1, μ2, e1, e2, h⟩ := op_wet (xs (nI q + (1 : Int32)).toNatClampNeg) μ hR
  have i1 : inb (nI q + (1 : Int32)) L := at_inb (k := 1) (by decide) hq hL
  unfold cL_3
  simp only [if_pos i1]
  rw [e1, bnd_s, e2, bnd_s, if_pos rfl, lti_e, show nI q + (6 : Int32) = nI (q + 6) from nI_add q 6]
  exact hK μ2 h
theorem law_c4 {xs : Nat → Int32} {L q : Nat} {K : Int32 → Mem → Option (Int32 × Mem)} {μ : Mem} (hq : q + 6 ≤ L) (hL : L ≤ 384) (hK : ∀ μ, Rx μ → ∃ μ', K (nI (q + 6)) μ = some (1, μ')) (hR : Rx μ) : ∃ μ', cL_4 xs L K (nI q) μ = some (1, μ') := by
  obtain ⟨r, μ1, μ2, e1, e2, h⟩ := op_paste (xs (nI q + (1 : Int32)).toNatClampNeg) (xs (nI q + (2 : Int32)).toNatClampNeg) μ hR
  have i1 : inb (nI q + (1 : Int32)) L := at_inb (k := 1) (by decide) hq hL
  have i2 : inb (nI q + (2 : Int32)) L := at_inb (k := 2) (by decide) hq hL
  unfold cL_4
  simp only [if_pos i1, if_pos i2]
  rw [e1, bnd_s, e2, bnd_s, if_pos rfl, lti_e, show nI q + (6 : Int32) = nI (q + 6) from nI_add q 6]
  exact hK μ2 h
theorem law_c5 {xs : Nat → Int32} {L q : Nat} {K : Int32 → Mem → Option (Int32 × Mem)} {μ : Mem} (hq : q + 6 ≤ L) (hL : L ≤ 384) (hK : ∀ μ, Rx μ → ∃ μ', K (nI (q + 6)) μ = some (1, μ')) (hR : Rx μ) : ∃ μ', cL_5 xs L K (nI q) μ = some (1, μ') := by
  obtain ⟨r, μ1, μ2, e1, e2, h⟩ := op_heard  μ hR
  unfold cL_5
  rw [e1, bnd_s, e2, bnd_s, if_pos rfl, lti_e, show nI q + (6 : Int32) = nI (q + 6) from nI_add q 6]
  exact hK μ2 h
theorem law_c6 {xs : Nat → Int32} {L q : Nat} {K : Int32 → Mem → Option (Int32 × Mem)} {μ : Mem} (hq : q + 6 ≤ L) (hL : L ≤ 384) (hK : ∀ μ, Rx μ → ∃ μ', K (nI (q + 6)) μ = some (1, μ')) (hR : Rx μ) : ∃ μ', cL_6 xs L K (nI q) μ = some (1, μ') := by
  obtain ⟨r, μ1, μ2, e1, e2, h⟩ := op_counsel (xs (nI q + (1 : Int32)).toNatClampNeg) (xs (nI q + (2 : Int32)).toNatClampNeg) μ hR
  have i1 : inb (nI q + (1 : Int32)) L := at_inb (k := 1) (by decide) hq hL
  have i2 : inb (nI q + (2 : Int32)) L := at_inb (k := 2) (by decide) hq hL
  unfold cL_6
  simp only [if_pos i1, if_pos i2]
  rw [e1, bnd_s, e2, bnd_s, if_pos rfl, lti_e, show nI q + (6 : Int32) = nI (q + 6) from nI_add q 6]
  exact hK μ2 h
theorem law_c7 {xs : Nat → Int32} {L q : Nat} {K : Int32 → Mem → Option (Int32 × Mem)} {μ : Mem} (hq : q + 6 ≤ L) (hL : L ≤ 384) (hK : ∀ μ, Rx μ → ∃ μ', K (nI (q + 6)) μ = some (1, μ')) (hR : Rx μ) : ∃ μ', cL_7 xs L K (nI q) μ = some (1, μ') := by
  obtain ⟨r, μ1, μ2, e1, e2, h⟩ := op_clash (xs (nI q + (1 : Int32)).toNatClampNeg) μ hR
  have i1 : inb (nI q + (1 : Int32)) L := at_inb (k := 1) (by decide) hq hL
  unfold cL_7
  simp only [if_pos i1]
  rw [e1, bnd_s, e2, bnd_s, if_pos rfl, lti_e, show nI q + (6 : Int32) = nI (q + 6) from nI_add q 6]
  exact hK μ2 h
theorem law_c8 {xs : Nat → Int32} {L q : Nat} {K : Int32 → Mem → Option (Int32 × Mem)} {μ : Mem} (hq : q + 6 ≤ L) (hL : L ≤ 384) (hK : ∀ μ, Rx μ → ∃ μ', K (nI (q + 6)) μ = some (1, μ')) (hR : Rx μ) : ∃ μ', cL_8 xs L K (nI q) μ = some (1, μ') := by
  obtain ⟨r, μ1, μ2, e1, e2, h⟩ := op_putUp (xs (nI q + (1 : Int32)).toNatClampNeg) (xs (nI q + (2 : Int32)).toNatClampNeg) (xs (nI q + (3 : Int32)).toNatClampNeg) μ hR
  have i1 : inb (nI q + (1 : Int32)) L := at_inb (k := 1) (by decide) hq hL
  have i2 : inb (nI q + (2 : Int32)) L := at_inb (k := 2) (by decide) hq hL
  have i3 : inb (nI q + (3 : Int32)) L := at_inb (k := 3) (by decide) hq hL
  unfold cL_8
  simp only [if_pos i1, if_pos i2, if_pos i3]
  rw [e1, bnd_s, e2, bnd_s, if_pos rfl, lti_e, show nI q + (6 : Int32) = nI (q + 6) from nI_add q 6]
  exact hK μ2 h
theorem law_c9 {xs : Nat → Int32} {L q : Nat} {K : Int32 → Mem → Option (Int32 × Mem)} {μ : Mem} (hq : q + 6 ≤ L) (hL : L ≤ 384) (hK : ∀ μ, Rx μ → ∃ μ', K (nI (q + 6)) μ = some (1, μ')) (hR : Rx μ) : ∃ μ', cL_9 xs L K (nI q) μ = some (1, μ') := by
  obtain ⟨r, μ1, μ2, e1, e2, h⟩ := op_peel  μ hR
  unfold cL_9
  rw [e1, bnd_s, e2, bnd_s, if_pos rfl, lti_e, show nI q + (6 : Int32) = nI (q + 6) from nI_add q 6]
  exact hK μ2 h
theorem law_c10 {xs : Nat → Int32} {L q : Nat} {K : Int32 → Mem → Option (Int32 × Mem)} {μ : Mem} (hq : q + 6 ≤ L) (hL : L ≤ 384) (hK : ∀ μ, Rx μ → ∃ μ', K (nI (q + 6)) μ = some (1, μ')) (hR : Rx μ) : ∃ μ', cL_10 xs L K (nI q) μ = some (1, μ') := by
  obtain ⟨r, μ1, μ2, e1, e2, h⟩ := op_days (xs (nI q + (1 : Int32)).toNatClampNeg) (xs (nI q + (2 : Int32)).toNatClampNeg) (xs (nI q + (3 : Int32)).toNatClampNeg) (xs (nI q + (4 : Int32)).toNatClampNeg) (xs (nI q + (5 : Int32)).toNatClampNeg) μ hR
  have i1 : inb (nI q + (1 : Int32)) L := at_inb (k := 1) (by decide) hq hL
  have i2 : inb (nI q + (2 : Int32)) L := at_inb (k := 2) (by decide) hq hL
  have i3 : inb (nI q + (3 : Int32)) L := at_inb (k := 3) (by decide) hq hL
  have i4 : inb (nI q + (4 : Int32)) L := at_inb (k := 4) (by decide) hq hL
  have i5 : inb (nI q + (5 : Int32)) L := at_inb (k := 5) (by decide) hq hL
  unfold cL_10
  simp only [if_pos i1, if_pos i2, if_pos i3, if_pos i4, if_pos i5]
  rw [e1, bnd_s, e2, bnd_s, if_pos rfl, lti_e, show nI q + (6 : Int32) = nI (q + 6) from nI_add q 6]
  exact hK μ2 h
theorem law_c11 {xs : Nat → Int32} {L q : Nat} {K : Int32 → Mem → Option (Int32 × Mem)} {μ : Mem} (hq : q + 6 ≤ L) (hL : L ≤ 384) (hK : ∀ μ, Rx μ → ∃ μ', K (nI (q + 6)) μ = some (1, μ')) (hR : Rx μ) : ∃ μ', cL_11 xs L K (nI q) μ = some (1, μ') := by
  obtain ⟨r, μ1, μ2, e1, e2, h⟩ := op_needs (xs (nI q + (1 : Int32)).toNatClampNeg) μ hR
  have i1 : inb (nI q + (1 : Int32)) L := at_inb (k := 1) (by decide) hq hL
  unfold cL_11
  simp only [if_pos i1]
  rw [e1, bnd_s, e2, bnd_s, if_pos rfl, lti_e, show nI q + (6 : Int32) = nI (q + 6) from nI_add q 6]
  exact hK μ2 h
theorem law_c12 {xs : Nat → Int32} {L q : Nat} {K : Int32 → Mem → Option (Int32 × Mem)} {μ : Mem} (hq : q + 6 ≤ L) (hL : L ≤ 384) (hK : ∀ μ, Rx μ → ∃ μ', K (nI (q + 6)) μ = some (1, μ')) (hR : Rx μ) : ∃ μ', cL_12 xs L K (nI q) μ = some (1, μ') := by
  obtain ⟨r, μ1, μ2, e1, e2, h⟩ := op_gets (xs (nI q + (1 : Int32)).toNatClampNeg) μ hR
  have i1 : inb (nI q + (1 : Int32)) L := at_inb (k := 1) (by decide) hq hL
  unfold cL_12
  simp only [if_pos i1]
  rw [e1, bnd_s, e2, bnd_s, if_pos rfl, lti_e, show nI q + (6 : Int32) = nI (q + 6) from nI_add q 6]
  exact hK μ2 h
theorem law_c13 {xs : Nat → Int32} {L q : Nat} {K : Int32 → Mem → Option (Int32 × Mem)} {μ : Mem} (hq : q + 6 ≤ L) (hL : L ≤ 384) (hK : ∀ μ, Rx μ → ∃ μ', K (nI (q + 6)) μ = some (1, μ')) (hR : Rx μ) : ∃ μ', cL_13 xs L K (nI q) μ = some (1, μ') := by
  obtain ⟨r, μ1, μ2, e1, e2, h⟩ := op_without (xs (nI q + (1 : Int32)).toNatClampNeg) μ hR
  have i1 : inb (nI q + (1 : Int32)) L := at_inb (k := 1) (by decide) hq hL
  unfold cL_13
  simp only [if_pos i1]
  rw [e1, bnd_s, e2, bnd_s, if_pos rfl, lti_e, show nI q + (6 : Int32) = nI (q + 6) from nI_add q 6]
  exact hK μ2 h
theorem law_c14 {xs : Nat → Int32} {L q : Nat} {K : Int32 → Mem → Option (Int32 × Mem)} {μ : Mem} (hq : q + 6 ≤ L) (hL : L ≤ 384) (hK : ∀ μ, Rx μ → ∃ μ', K (nI (q + 6)) μ = some (1, μ')) (hR : Rx μ) : ∃ μ', cL_14 xs L K (nI q) μ = some (1, μ') := by
  obtain ⟨r, μ1, μ2, e1, e2, h⟩ := op_reading (xs (nI q + (1 : Int32)).toNatClampNeg) (xs (nI q + (2 : Int32)).toNatClampNeg) (xs (nI q + (3 : Int32)).toNatClampNeg) μ hR
  have i1 : inb (nI q + (1 : Int32)) L := at_inb (k := 1) (by decide) hq hL
  have i2 : inb (nI q + (2 : Int32)) L := at_inb (k := 2) (by decide) hq hL
  have i3 : inb (nI q + (3 : Int32)) L := at_inb (k := 3) (by decide) hq hL
  unfold cL_14
  simp only [if_pos i1, if_pos i2, if_pos i3]
  rw [e1, bnd_s, e2, bnd_s, if_pos rfl, lti_e, show nI q + (6 : Int32) = nI (q + 6) from nI_add q 6]
  exact hK μ2 h
theorem law_c15 {xs : Nat → Int32} {L q : Nat} {K : Int32 → Mem → Option (Int32 × Mem)} {μ : Mem} (hq : q + 6 ≤ L) (hL : L ≤ 384) (hK : ∀ μ, Rx μ → ∃ μ', K (nI (q + 6)) μ = some (1, μ')) (hR : Rx μ) : ∃ μ', cL_15 xs L K (nI q) μ = some (1, μ') := by
  obtain ⟨r, μ1, μ2, e1, e2, h⟩ := op_back (xs (nI q + (1 : Int32)).toNatClampNeg) μ hR
  have i1 : inb (nI q + (1 : Int32)) L := at_inb (k := 1) (by decide) hq hL
  unfold cL_15
  simp only [if_pos i1]
  rw [e1, bnd_s, e2, bnd_s, if_pos rfl, lti_e, show nI q + (6 : Int32) = nI (q + 6) from nI_add q 6]
  exact hK μ2 h
theorem law_c16 {xs : Nat → Int32} {L q : Nat} {K : Int32 → Mem → Option (Int32 × Mem)} {μ : Mem} (hq : q + 6 ≤ L) (hL : L ≤ 384) (hK : ∀ μ, Rx μ → ∃ μ', K (nI (q + 6)) μ = some (1, μ')) (hR : Rx μ) : ∃ μ', cL_16 xs L K (nI q) μ = some (1, μ') := by
  obtain ⟨r, μ1, μ2, e1, e2, h⟩ := op_orders (xs (nI q + (1 : Int32)).toNatClampNeg) μ hR
  have i1 : inb (nI q + (1 : Int32)) L := at_inb (k := 1) (by decide) hq hL
  unfold cL_16
  simp only [if_pos i1]
  rw [e1, bnd_s, e2, bnd_s, if_pos rfl, lti_e, show nI q + (6 : Int32) = nI (q + 6) from nI_add q 6]
  exact hK μ2 h
theorem law_c17 {xs : Nat → Int32} {L q : Nat} {K : Int32 → Mem → Option (Int32 × Mem)} {μ : Mem} (hq : q + 6 ≤ L) (hL : L ≤ 384) (hK : ∀ μ, Rx μ → ∃ μ', K (nI (q + 6)) μ = some (1, μ')) (hR : Rx μ) : ∃ μ', cL_17 xs L K (nI q) μ = some (1, μ') := by
  obtain ⟨r, μ1, μ2, e1, e2, h⟩ := op_holds (xs (nI q + (1 : Int32)).toNatClampNeg) μ hR
  have i1 : inb (nI q + (1 : Int32)) L := at_inb (k := 1) (by decide) hq hL
  unfold cL_17
  simp only [if_pos i1]
  rw [e1, bnd_s, e2, bnd_s, if_pos rfl, lti_e, show nI q + (6 : Int32) = nI (q + 6) from nI_add q 6]
  exact hK μ2 h
theorem law_c18 {xs : Nat → Int32} {L q : Nat} {K : Int32 → Mem → Option (Int32 × Mem)} {μ : Mem} (hq : q + 6 ≤ L) (hL : L ≤ 384) (hK : ∀ μ, Rx μ → ∃ μ', K (nI (q + 6)) μ = some (1, μ')) (hR : Rx μ) : ∃ μ', cL_18 xs L K (nI q) μ = some (1, μ') := by
  obtain ⟨r, μ1, μ2, e1, e2, h⟩ := op_advices (xs (nI q + (1 : Int32)).toNatClampNeg) μ hR
  have i1 : inb (nI q + (1 : Int32)) L := at_inb (k := 1) (by decide) hq hL
  unfold cL_18
  simp only [if_pos i1]
  rw [e1, bnd_s, e2, bnd_s, if_pos rfl, lti_e, show nI q + (6 : Int32) = nI (q + 6) from nI_add q 6]
  exact hK μ2 h
theorem law_c19 {xs : Nat → Int32} {L q : Nat} {K : Int32 → Mem → Option (Int32 × Mem)} {μ : Mem} (hq : q + 6 ≤ L) (hL : L ≤ 384) (hK : ∀ μ, Rx μ → ∃ μ', K (nI (q + 6)) μ = some (1, μ')) (hR : Rx μ) : ∃ μ', cL_19 xs L K (nI q) μ = some (1, μ') := by
  obtain ⟨r, μ1, μ2, e1, e2, h⟩ := op_kinds (xs (nI q + (1 : Int32)).toNatClampNeg) μ hR
  have i1 : inb (nI q + (1 : Int32)) L := at_inb (k := 1) (by decide) hq hL
  unfold cL_19
  simp only [if_pos i1]
  rw [e1, bnd_s, e2, bnd_s, if_pos rfl, lti_e, show nI q + (6 : Int32) = nI (q + 6) from nI_add q 6]
  exact hK μ2 h
theorem law_c20 {xs : Nat → Int32} {L q : Nat} {K : Int32 → Mem → Option (Int32 × Mem)} {μ : Mem} (hq : q + 6 ≤ L) (hL : L ≤ 384) (hK : ∀ μ, Rx μ → ∃ μ', K (nI (q + 6)) μ = some (1, μ')) (hR : Rx μ) : ∃ μ', cL_20 xs L K (nI q) μ = some (1, μ') := by
  obtain ⟨r, μ1, μ2, e1, e2, h⟩ := op_odds (xs (nI q + (1 : Int32)).toNatClampNeg) (xs (nI q + (2 : Int32)).toNatClampNeg) μ hR
  have i1 : inb (nI q + (1 : Int32)) L := at_inb (k := 1) (by decide) hq hL
  have i2 : inb (nI q + (2 : Int32)) L := at_inb (k := 2) (by decide) hq hL
  unfold cL_20
  simp only [if_pos i1, if_pos i2]
  rw [e1, bnd_s, e2, bnd_s, if_pos (lcmp_self r), lti_e, show nI q + (6 : Int32) = nI (q + 6) from nI_add q 6]
  exact hK μ2 h
theorem law_c21 {xs : Nat → Int32} {L q : Nat} {K : Int32 → Mem → Option (Int32 × Mem)} {μ : Mem} (hq : q + 6 ≤ L) (hL : L ≤ 384) (hK : ∀ μ, Rx μ → ∃ μ', K (nI (q + 6)) μ = some (1, μ')) (hR : Rx μ) : ∃ μ', cL_21 xs L K (nI q) μ = some (1, μ') := by
  obtain ⟨r, μ1, μ2, e1, e2, h⟩ := op_sheet (xs (nI q + (1 : Int32)).toNatClampNeg) (xs (nI q + (2 : Int32)).toNatClampNeg) (xs (nI q + (3 : Int32)).toNatClampNeg) μ hR
  have i1 : inb (nI q + (1 : Int32)) L := at_inb (k := 1) (by decide) hq hL
  have i2 : inb (nI q + (2 : Int32)) L := at_inb (k := 2) (by decide) hq hL
  have i3 : inb (nI q + (3 : Int32)) L := at_inb (k := 3) (by decide) hq hL
  unfold cL_21
  simp only [if_pos i1, if_pos i2, if_pos i3]
  rw [e1, bnd_s, e2, bnd_s, if_pos rfl, lti_e, show nI q + (6 : Int32) = nI (q + 6) from nI_add q 6]
  exact hK μ2 h
theorem law_c22 {xs : Nat → Int32} {L q : Nat} {K : Int32 → Mem → Option (Int32 × Mem)} {μ : Mem} (hq : q + 6 ≤ L) (hL : L ≤ 384) (hK : ∀ μ, Rx μ → ∃ μ', K (nI (q + 6)) μ = some (1, μ')) (hR : Rx μ) : ∃ μ', cL_22 xs L K (nI q) μ = some (1, μ') := by
  obtain ⟨r, μ1, μ2, e1, e2, h⟩ := op_lose (xs (nI q + (1 : Int32)).toNatClampNeg) μ hR
  have i1 : inb (nI q + (1 : Int32)) L := at_inb (k := 1) (by decide) hq hL
  unfold cL_22
  simp only [if_pos i1]
  rw [e1, bnd_s, e2, bnd_s, if_pos rfl, lti_e, show nI q + (6 : Int32) = nI (q + 6) from nI_add q 6]
  exact hK μ2 h
theorem law_c23 {xs : Nat → Int32} {L q : Nat} {K : Int32 → Mem → Option (Int32 × Mem)} {μ : Mem} (hq : q + 6 ≤ L) (hL : L ≤ 384) (hK : ∀ μ, Rx μ → ∃ μ', K (nI (q + 6)) μ = some (1, μ')) (hR : Rx μ) : ∃ μ', cL_23 xs L K (nI q) μ = some (1, μ') := by
  obtain ⟨r, μ1, μ2, e1, e2, h⟩ := op_put (xs (nI q + (1 : Int32)).toNatClampNeg) (xs (nI q + (2 : Int32)).toNatClampNeg) (xs (nI q + (3 : Int32)).toNatClampNeg) μ hR
  have i1 : inb (nI q + (1 : Int32)) L := at_inb (k := 1) (by decide) hq hL
  have i2 : inb (nI q + (2 : Int32)) L := at_inb (k := 2) (by decide) hq hL
  have i3 : inb (nI q + (3 : Int32)) L := at_inb (k := 3) (by decide) hq hL
  unfold cL_23
  simp only [if_pos i1, if_pos i2, if_pos i3]
  rw [e1, bnd_s, e2, bnd_s, if_pos rfl, lti_e, show nI q + (6 : Int32) = nI (q + 6) from nI_add q 6]
  exact hK μ2 h
theorem law_c24 {xs : Nat → Int32} {L q : Nat} {K : Int32 → Mem → Option (Int32 × Mem)} {μ : Mem} (hq : q + 6 ≤ L) (hL : L ≤ 384) (hK : ∀ μ, Rx μ → ∃ μ', K (nI (q + 6)) μ = some (1, μ')) (hR : Rx μ) : ∃ μ', cL_24 xs L K (nI q) μ = some (1, μ') := by
  obtain ⟨r, μ1, μ2, e1, e2, h⟩ := op_cell (xs (nI q + (1 : Int32)).toNatClampNeg) (xs (nI q + (2 : Int32)).toNatClampNeg) (xs (nI q + (3 : Int32)).toNatClampNeg) μ hR
  have i1 : inb (nI q + (1 : Int32)) L := at_inb (k := 1) (by decide) hq hL
  have i2 : inb (nI q + (2 : Int32)) L := at_inb (k := 2) (by decide) hq hL
  have i3 : inb (nI q + (3 : Int32)) L := at_inb (k := 3) (by decide) hq hL
  unfold cL_24
  simp only [if_pos i1, if_pos i2, if_pos i3]
  rw [e1, bnd_s, e2, bnd_s, if_pos (lcmp_self r), lti_e, show nI q + (6 : Int32) = nI (q + 6) from nI_add q 6]
  exact hK μ2 h
theorem law_c25 {xs : Nat → Int32} {L q : Nat} {K : Int32 → Mem → Option (Int32 × Mem)} {μ : Mem} (hq : q + 6 ≤ L) (hL : L ≤ 384) (hK : ∀ μ, Rx μ → ∃ μ', K (nI (q + 6)) μ = some (1, μ')) (hR : Rx μ) : ∃ μ', cL_25 xs L K (nI q) μ = some (1, μ') := by
  obtain ⟨r, μ1, μ2, e1, e2, h⟩ := op_copy (xs (nI q + (1 : Int32)).toNatClampNeg) (xs (nI q + (2 : Int32)).toNatClampNeg) (xs (nI q + (3 : Int32)).toNatClampNeg) (xs (nI q + (4 : Int32)).toNatClampNeg) (xs (nI q + (5 : Int32)).toNatClampNeg) μ hR
  have i1 : inb (nI q + (1 : Int32)) L := at_inb (k := 1) (by decide) hq hL
  have i2 : inb (nI q + (2 : Int32)) L := at_inb (k := 2) (by decide) hq hL
  have i3 : inb (nI q + (3 : Int32)) L := at_inb (k := 3) (by decide) hq hL
  have i4 : inb (nI q + (4 : Int32)) L := at_inb (k := 4) (by decide) hq hL
  have i5 : inb (nI q + (5 : Int32)) L := at_inb (k := 5) (by decide) hq hL
  unfold cL_25
  simp only [if_pos i1, if_pos i2, if_pos i3, if_pos i4, if_pos i5]
  rw [e1, bnd_s, e2, bnd_s, if_pos rfl, lti_e, show nI q + (6 : Int32) = nI (q + 6) from nI_add q 6]
  exact hK μ2 h
theorem law_c26 {xs : Nat → Int32} {L q : Nat} {K : Int32 → Mem → Option (Int32 × Mem)} {μ : Mem} (hq : q + 6 ≤ L) (hL : L ≤ 384) (hK : ∀ μ, Rx μ → ∃ μ', K (nI (q + 6)) μ = some (1, μ')) (hR : Rx μ) : ∃ μ', cL_26 xs L K (nI q) μ = some (1, μ') := by
  obtain ⟨r, μ1, μ2, e1, e2, h⟩ := op_tell (xs (nI q + (1 : Int32)).toNatClampNeg) μ hR
  have i1 : inb (nI q + (1 : Int32)) L := at_inb (k := 1) (by decide) hq hL
  unfold cL_26
  simp only [if_pos i1]
  rw [e1, bnd_s, e2, bnd_s, if_pos rfl, lti_e, show nI q + (6 : Int32) = nI (q + 6) from nI_add q 6]
  exact hK μ2 h
theorem law_c27 {xs : Nat → Int32} {L q : Nat} {K : Int32 → Mem → Option (Int32 × Mem)} {μ : Mem} (hq : q + 6 ≤ L) (hL : L ≤ 384) (hK : ∀ μ, Rx μ → ∃ μ', K (nI (q + 6)) μ = some (1, μ')) (hR : Rx μ) : ∃ μ', cL_27 xs L K (nI q) μ = some (1, μ') := by
  obtain ⟨r, μ1, μ2, e1, e2, h⟩ := op_stroke (xs (nI q + (1 : Int32)).toNatClampNeg) μ hR
  have i1 : inb (nI q + (1 : Int32)) L := at_inb (k := 1) (by decide) hq hL
  unfold cL_27
  simp only [if_pos i1]
  rw [e1, bnd_s, e2, bnd_s, if_pos rfl, lti_e, show nI q + (6 : Int32) = nI (q + 6) from nI_add q 6]
  exact hK μ2 h
theorem law_c28 {xs : Nat → Int32} {L q : Nat} {K : Int32 → Mem → Option (Int32 × Mem)} {μ : Mem} (hq : q + 6 ≤ L) (hL : L ≤ 384) (hK : ∀ μ, Rx μ → ∃ μ', K (nI (q + 6)) μ = some (1, μ')) (hR : Rx μ) : ∃ μ', cL_28 xs L K (nI q) μ = some (1, μ') := by
  obtain ⟨r, μ1, μ2, e1, e2, h⟩ := op_as (xs (nI q + (1 : Int32)).toNatClampNeg) (xs (nI q + (2 : Int32)).toNatClampNeg) μ hR
  have i1 : inb (nI q + (1 : Int32)) L := at_inb (k := 1) (by decide) hq hL
  have i2 : inb (nI q + (2 : Int32)) L := at_inb (k := 2) (by decide) hq hL
  unfold cL_28
  simp only [if_pos i1, if_pos i2]
  rw [e1, bnd_s, e2, bnd_s, if_pos rfl, lti_e, show nI q + (6 : Int32) = nI (q + 6) from nI_add q 6]
  exact hK μ2 h
theorem law_c29 {xs : Nat → Int32} {L q : Nat} {K : Int32 → Mem → Option (Int32 × Mem)} {μ : Mem} (hq : q + 6 ≤ L) (hL : L ≤ 384) (hK : ∀ μ, Rx μ → ∃ μ', K (nI (q + 6)) μ = some (1, μ')) (hR : Rx μ) : ∃ μ', cL_29 xs L K (nI q) μ = some (1, μ') := by
  obtain ⟨r, μ1, μ2, e1, e2, h⟩ := op_trace  μ hR
  unfold cL_29
  rw [e1, bnd_s, e2, bnd_s, if_pos rfl, lti_e, show nI q + (6 : Int32) = nI (q + 6) from nI_add q 6]
  exact hK μ2 h
theorem law_c30 {xs : Nat → Int32} {L q : Nat} {K : Int32 → Mem → Option (Int32 × Mem)} {μ : Mem} (hq : q + 6 ≤ L) (hL : L ≤ 384) (hK : ∀ μ, Rx μ → ∃ μ', K (nI (q + 6)) μ = some (1, μ')) (hR : Rx μ) : ∃ μ', cL_30 xs L K (nI q) μ = some (1, μ') := by
  obtain ⟨r, μ1, μ2, e1, e2, h⟩ := op_fault  μ hR
  unfold cL_30
  rw [e1, bnd_s, e2, bnd_s, if_pos rfl, lti_e, show nI q + (6 : Int32) = nI (q + 6) from nI_add q 6]
  exact hK μ2 h
theorem law_c31 {xs : Nat → Int32} {L q : Nat} {K : Int32 → Mem → Option (Int32 × Mem)} {μ : Mem} (hq : q + 6 ≤ L) (hL : L ≤ 384) (hK : ∀ μ, Rx μ → ∃ μ', K (nI (q + 6)) μ = some (1, μ')) (hR : Rx μ) : ∃ μ', cL_31 xs L K (nI q) μ = some (1, μ') := by
  obtain ⟨r, μ1, μ2, e1, e2, h⟩ := op_many (xs (nI q + (1 : Int32)).toNatClampNeg) μ hR
  have i1 : inb (nI q + (1 : Int32)) L := at_inb (k := 1) (by decide) hq hL
  unfold cL_31
  simp only [if_pos i1]
  rw [e1, bnd_s, e2, bnd_s, if_pos rfl, lti_e, show nI q + (6 : Int32) = nI (q + 6) from nI_add q 6]
  exact hK μ2 h
theorem len_m6 : ∀ L : Fin 385, (nI L.val - 6).toInt = (L.val : Int) - 6 := by decide +kernel
theorem law_step {xs : Nat → Int32} {L q : Nat} {K : Int32 → Mem → Option (Int32 × Mem)} {μ : Mem} (hq : q + 6 ≤ L) (hL : L ≤ 384) (hK : ∀ μ, Rx μ → ∃ μ', K (nI (q + 6)) μ = some (1, μ')) (hR : Rx μ) : ∃ μ', sL_law_L18 xs L K (nI q) μ = some (1, μ') := by
  unfold sL_law_L18
  have hb : ¬ (Int32.ofNat L - (6 : Int32)) < nI q := fun z => by
    have e := len_m6 ⟨L, by omega⟩
    have z := Int32.lt_iff_toInt_lt.mp z
    rw [nI_toInt (by omega)] at z
    have z' : (nI L - 6).toInt < (q : Int) := z
    dsimp only at e
    omega
  rw [if_neg hb, if_pos (inb_nI (by omega) (by omega))]
  generalize xs (nI q).toNatClampNeg &&& (31 : Int32) = v
  by_cases h0 : v = 0
  · rw [if_pos h0]; exact law_c0 hq hL hK hR
  rw [if_neg h0]
  by_cases h1 : v = 1
  · rw [if_pos h1]; exact law_c1 hq hL hK hR
  rw [if_neg h1]
  by_cases h2 : v = 2
  · rw [if_pos h2]; exact law_c2 hq hL hK hR
  rw [if_neg h2]
  by_cases h3 : v = 3
  · rw [if_pos h3]; exact law_c3 hq hL hK hR
  rw [if_neg h3]
  by_cases h4 : v = 4
  · rw [if_pos h4]; exact law_c4 hq hL hK hR
  rw [if_neg h4]
  by_cases h5 : v = 5
  · rw [if_pos h5]; exact law_c5 hq hL hK hR
  rw [if_neg h5]
  by_cases h6 : v = 6
  · rw [if_pos h6]; exact law_c6 hq hL hK hR
  rw [if_neg h6]
  by_cases h7 : v = 7
  · rw [if_pos h7]; exact law_c7 hq hL hK hR
  rw [if_neg h7]
  by_cases h8 : v = 8
  · rw [if_pos h8]; exact law_c8 hq hL hK hR
  rw [if_neg h8]
  by_cases h9 : v = 9
  · rw [if_pos h9]; exact law_c9 hq hL hK hR
  rw [if_neg h9]
  by_cases h10 : v = 10
  · rw [if_pos h10]; exact law_c10 hq hL hK hR
  rw [if_neg h10]
  by_cases h11 : v = 11
  · rw [if_pos h11]; exact law_c11 hq hL hK hR
  rw [if_neg h11]
  by_cases h12 : v = 12
  · rw [if_pos h12]; exact law_c12 hq hL hK hR
  rw [if_neg h12]
  by_cases h13 : v = 13
  · rw [if_pos h13]; exact law_c13 hq hL hK hR
  rw [if_neg h13]
  by_cases h14 : v = 14
  · rw [if_pos h14]; exact law_c14 hq hL hK hR
  rw [if_neg h14]
  by_cases h15 : v = 15
  · rw [if_pos h15]; exact law_c15 hq hL hK hR
  rw [if_neg h15]
  by_cases h16 : v = 16
  · rw [if_pos h16]; exact law_c16 hq hL hK hR
  rw [if_neg h16]
  by_cases h17 : v = 17
  · rw [if_pos h17]; exact law_c17 hq hL hK hR
  rw [if_neg h17]
  by_cases h18 : v = 18
  · rw [if_pos h18]; exact law_c18 hq hL hK hR
  rw [if_neg h18]
  by_cases h19 : v = 19
  · rw [if_pos h19]; exact law_c19 hq hL hK hR
  rw [if_neg h19]
  by_cases h20 : v = 20
  · rw [if_pos h20]; exact law_c20 hq hL hK hR
  rw [if_neg h20]
  by_cases h21 : v = 21
  · rw [if_pos h21]; exact law_c21 hq hL hK hR
  rw [if_neg h21]
  by_cases h22 : v = 22
  · rw [if_pos h22]; exact law_c22 hq hL hK hR
  rw [if_neg h22]
  by_cases h23 : v = 23
  · rw [if_pos h23]; exact law_c23 hq hL hK hR
  rw [if_neg h23]
  by_cases h24 : v = 24
  · rw [if_pos h24]; exact law_c24 hq hL hK hR
  rw [if_neg h24]
  by_cases h25 : v = 25
  · rw [if_pos h25]; exact law_c25 hq hL hK hR
  rw [if_neg h25]
  by_cases h26 : v = 26
  · rw [if_pos h26]; exact law_c26 hq hL hK hR
  rw [if_neg h26]
  by_cases h27 : v = 27
  · rw [if_pos h27]; exact law_c27 hq hL hK hR
  rw [if_neg h27]
  by_cases h28 : v = 28
  · rw [if_pos h28]; exact law_c28 hq hL hK hR
  rw [if_neg h28]
  by_cases h29 : v = 29
  · rw [if_pos h29]; exact law_c29 hq hL hK hR
  rw [if_neg h29]
  by_cases h30 : v = 30
  · rw [if_pos h30]; exact law_c30 hq hL hK hR
  rw [if_neg h30]
  by_cases h31 : v = 31
  · rw [if_pos h31]; exact law_c31 hq hL hK hR
  rw [if_neg h31]
  rw [lti_e, show nI q + (6 : Int32) = nI (q + 6) from nI_add q 6]
  exact hK μ hR
theorem law_pure {xs : Nat → Int32} {L : Nat} (hL : L ≤ 384) : ∀ (fuel q : Nat) (μ : Mem), Rx μ → L + 6 < q + 6 * fuel → q ≤ L + 6 → ∃ μ', fL_law_L18 xs L fuel (nI q) μ = some (1, μ') := by
  intro fuel
  induction fuel with
  | zero =>
    intro q μ hR h hq
    omega
  | succ fuel ih =>
    intro q μ hR h hq
    show ∃ μ', sL_law_L18 xs L (fL_law_L18 xs L fuel) (nI q) μ = some (1, μ')
    by_cases hq6 : q + 6 ≤ L
    · exact law_step hq6 hL (fun μ1 h1 => ih (q + 6) μ1 h1 (by omega) (by omega)) hR
    · refine ⟨μ, ?_⟩
      unfold sL_law_L18
      rw [if_pos (show (Int32.ofNat L - (6 : Int32)) < nI q from by
        rw [Int32.lt_iff_toInt_lt, nI_toInt (by omega)]
        show (nI L - 6).toInt < (q : Int)
        have e := len_m6 ⟨L, by omega⟩
        dsimp only at e
        omega)]
/-- the memory at the start -/
def mu0 : Mem := fun i k => if i = 32 ∧ k < 4 then -9 else 0
theorem mu0_n {i : Nat} (h : i ≠ 32) (k : Nat) : mu0 i k = 0 := if_neg (fun z => h z.1)
theorem Rx0 : Rx mu0 := by
  refine ⟨[], 0, 0, [], ⟨⟨by decide, mu0_n (by decide) _, mu0_n (by decide) _, mu0_n (by decide) _, fun j hj => absurd hj (by simp)⟩, ⟨by decide, mu0_n (by decide) _, mu0_n (by decide) _, mu0_n (by decide) _, fun j hj => absurd hj (by simp)⟩, fun t ht => absurd ht List.not_mem_nil⟩, ⟨⟨by decide, mu0_n (by decide) _, fun j hj => absurd hj (by simp)⟩, ⟨by decide, mu0_n (by decide) _, fun j hj => absurd hj (by simp)⟩⟩, fun k hk => ⟨Or.inl ⟨mu0_n (by omega) _, if_pos ⟨rfl, hk⟩⟩, fun i hi => ?_⟩, ?_, ?_⟩
  · rw [mu0_n (by omega), mu0_n (by decide)]
  · rw [mu0_n (by decide), mu0_n (by decide)]
  · rw [mu0_n (by decide), mu0_n (by decide)]
