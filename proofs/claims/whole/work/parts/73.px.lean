/-! THE START: the world as the law makes it -/
theorem mu0_z {i : Nat} (h : i ≠ 32) : mu0 i = fun _ => 0 := funext (fun k => mu0_n h k)
theorem mu0_32 : mu0 32 = upd (upd (upd (upd (fun _ => 0) 0 (-9)) 1 (-9)) 2 (-9)) 3 (-9) := by
  funext k
  unfold mu0 upd
  by_cases h3 : k = 3
  · rw [if_pos ⟨rfl, by omega⟩, if_pos h3]
  · rw [if_neg h3]
    by_cases h2 : k = 2
    · rw [if_pos ⟨rfl, by omega⟩, if_pos h2]
    · rw [if_neg h2]
      by_cases h1 : k = 1
      · rw [if_pos ⟨rfl, by omega⟩, if_pos h1]
      · rw [if_neg h1]
        by_cases h0 : k = 0
        · rw [if_pos ⟨rfl, by omega⟩, if_pos h0]
        · rw [if_neg h0, if_neg (fun z => by have := z.2; omega)]
theorem rf_ext {c : ClassId} {N : Nat} {f g : Nat → Option Nat} (h : ∀ j, j < N → f j = g j) : vp_cell c (N, .inr (.inr (.inr (.inr f)))) = vp_cell c (N, .inr (.inr (.inr (.inr g)))) := by
  show arrV c N (fun j => va_rf (f j)) = arrV c N (fun j => va_rf (g j))
  unfold arrV
  rw [show (fun j : Fin N => va_rf (f j.val)) = fun j => va_rf (g j.val) from funext (fun j => by rw [h j.val j.isLt])]
def pmT : List Nat := [0, 1, 2, 3, 4, 5, 6, 7, 8, 9, 10, 11, 12, 13, 14, 15, 16, 17, 18, 19, 20, 21, 22, 23, 25, 27, 29, 24, 26, 28, 30, 31, 32, 33, 34, 35, 36, 37, 38, 39, 40, 41, 42, 43]
theorem pm_in : ∀ i j : Fin 44, pmT.getD i.val 0 = pmT.getD j.val 0 → i = j := by decide +kernel
abbrev Gs (D : va_G) (A : Nat → Prop) (cI cL cS : ClassId) (as : List Nat) : GT := (fun i => as.getD i 0, (cI, cL, cS), D, A)
abbrev W44 (cI cL cS : ClassId) (q a1 a2 a3 a4 a5 a6 a7 a8 a11 a12 a13 a14 a15 a16 a17 a18 a21 a22 a23 a27 a28 a31 a34 a35 a38 a39 a42 a43 a46 a47 r b1 b4 b7 b10 b13 b16 b19 b22 b25 b28 b31 b34 : Nat) : va_W := [(q, .inr (5, [.ref a1, .ref a11, .ref a21, .ref a27, .ref a31, .int 0, .int 0])), (a1, .inr (4, [.ref a2, .int 0, .int 0, .int 0])), (a2, .inl (cL, (6, .inr (.inr (.inr (.inr (va_up (va_up (va_up (va_up (va_up (va_up (fun _ => none) 0 (some a3)) 1 (some a4)) 2 (some a5)) 3 (some a6)) 4 (some a7)) 5 (some a8)))))))), (a3, .inr (0, [.int 0, .int 0, .int 0])), (a4, .inr (0, [.int 0, .int 0, .int 0])), (a5, .inr (0, [.int 0, .int 0, .int 0])), (a6, .inr (0, [.int 0, .int 0, .int 0])), (a7, .inr (0, [.int 0, .int 0, .int 0])), (a8, .inr (0, [.int 0, .int 0, .int 0])), (a11, .inr (4, [.ref a12, .int 0, .int 0, .int 0])), (a12, .inl (cL, (6, .inr (.inr (.inr (.inr (va_up (va_up (va_up (va_up (va_up (va_up (fun _ => none) 0 (some a13)) 1 (some a14)) 2 (some a15)) 3 (some a16)) 4 (some a17)) 5 (some a18)))))))), (a13, .inr (0, [.int 0, .int 0, .int 0])), (a14, .inr (0, [.int 0, .int 0, .int 0])), (a15, .inr (0, [.int 0, .int 0, .int 0])), (a16, .inr (0, [.int 0, .int 0, .int 0])), (a17, .inr (0, [.int 0, .int 0, .int 0])), (a18, .inr (0, [.int 0, .int 0, .int 0])), (a21, .inr (2, [.ref a22, .ref a23, .int 0])), (a22, .inl (cI, (8, .inl (fun _ => 0)))), (a23, .inl (cI, (8, .inl (fun _ => 0)))), (a27, .inr (1, [.ref a28, .int 0])), (a28, .inl (cI, (6, .inl (fun _ => 0)))), (a31, .inl (cS, (4, .inr (.inr (.inr (.inr (va_up (va_up (va_up (va_up (fun _ => none) 0 (some a34)) 1 (some a38)) 2 (some a42)) 3 (some a46)))))))), (a34, .inr (3, [.ref a35, .int 0, .int 0, .int 0])), (a35, .inl (cI, (60, .inl (fun _ => 0)))), (a38, .inr (3, [.ref a39, .int 0, .int 0, .int 0])), (a39, .inl (cI, (60, .inl (fun _ => 0)))), (a42, .inr (3, [.ref a43, .int 0, .int 0, .int 0])), (a43, .inl (cI, (60, .inl (fun _ => 0)))), (a46, .inr (3, [.ref a47, .int 0, .int 0, .int 0])), (a47, .inl (cI, (60, .inl (fun _ => 0)))), (r, .inr (6, [.int 0, .int 0, .ref b1, .ref b4, .ref b7, .int 0, .int 0, .int 0, .ref b10, .ref b13, .ref b16, .int 0, .int 0, .int 0, .int 0, .ref b19, .ref b22, .ref b25, .int 0, .int 0, .int 0, .int 0, .int 0, .ref b28, .ref b31, .ref b34])), (b1, .inl (cI, (4, .inl (upd (upd (upd (upd (fun _ => 0) 0 (-9)) 1 (-9)) 2 (-9)) 3 (-9))))), (b4, .inl (cI, (4, .inl (fun _ => 0)))), (b7, .inl (cI, (240, .inl (fun _ => 0)))), (b10, .inl (cI, (6, .inl (fun _ => 0)))), (b13, .inl (cI, (6, .inl (fun _ => 0)))), (b16, .inl (cI, (6, .inl (fun _ => 0)))), (b19, .inl (cI, (18, .inl (fun _ => 0)))), (b22, .inl (cI, (6, .inl (fun _ => 0)))), (b25, .inl (cI, (18, .inl (fun _ => 0)))), (b28, .inl (cI, (8, .inl (fun _ => 0)))), (b31, .inl (cI, (8, .inl (fun _ => 0)))), (b34, .inl (cI, (8, .inl (fun _ => 0))))]
theorem st_at {D : va_G} {A : Nat → Prop} {cI cL cS : ClassId} {q a1 a2 a3 a4 a5 a6 a7 a8 a11 a12 a13 a14 a15 a16 a17 a18 a21 a22 a23 a27 a28 a31 a34 a35 a38 a39 a42 a43 a46 a47 r b1 b4 b7 b10 b13 b16 b19 b22 b25 b28 b31 b34 : Nat} : ∀ i, i < 44 → ∃ e, (W44 cI cL cS q a1 a2 a3 a4 a5 a6 a7 a8 a11 a12 a13 a14 a15 a16 a17 a18 a21 a22 a23 a27 a28 a31 a34 a35 a38 a39 a42 a43 a46 a47 r b1 b4 b7 b10 b13 b16 b19 b22 b25 b28 b31 b34)[pmT.getD i 0]? = some (ga (Gs D A cI cL cS [q, a1, a2, a3, a4, a5, a6, a7, a8, a11, a12, a13, a14, a15, a16, a17, a18, a21, a22, a23, a27, a28, a31, a34, a38, a42, a46, a35, a39, a43, a47, r, b1, b4, b7, b10, b13, b16, b19, b22, b25, b28, b31, b34]) i, e) := by
  intro i hi
  match i, hi with
  | 0, _ => exact ⟨_, rfl⟩
  | 1, _ => exact ⟨_, rfl⟩
  | 2, _ => exact ⟨_, rfl⟩
  | 3, _ => exact ⟨_, rfl⟩
  | 4, _ => exact ⟨_, rfl⟩
  | 5, _ => exact ⟨_, rfl⟩
  | 6, _ => exact ⟨_, rfl⟩
  | 7, _ => exact ⟨_, rfl⟩
  | 8, _ => exact ⟨_, rfl⟩
  | 9, _ => exact ⟨_, rfl⟩
  | 10, _ => exact ⟨_, rfl⟩
  | 11, _ => exact ⟨_, rfl⟩
  | 12, _ => exact ⟨_, rfl⟩
  | 13, _ => exact ⟨_, rfl⟩
  | 14, _ => exact ⟨_, rfl⟩
  | 15, _ => exact ⟨_, rfl⟩
  | 16, _ => exact ⟨_, rfl⟩
  | 17, _ => exact ⟨_, rfl⟩
  | 18, _ => exact ⟨_, rfl⟩
  | 19, _ => exact ⟨_, rfl⟩
  | 20, _ => exact ⟨_, rfl⟩
  | 21, _ => exact ⟨_, rfl⟩
  | 22, _ => exact ⟨_, rfl⟩
  | 23, _ => exact ⟨_, rfl⟩
  | 24, _ => exact ⟨_, rfl⟩
  | 25, _ => exact ⟨_, rfl⟩
  | 26, _ => exact ⟨_, rfl⟩
  | 27, _ => exact ⟨_, rfl⟩
  | 28, _ => exact ⟨_, rfl⟩
  | 29, _ => exact ⟨_, rfl⟩
  | 30, _ => exact ⟨_, rfl⟩
  | 31, _ => exact ⟨_, rfl⟩
  | 32, _ => exact ⟨_, rfl⟩
  | 33, _ => exact ⟨_, rfl⟩
  | 34, _ => exact ⟨_, rfl⟩
  | 35, _ => exact ⟨_, rfl⟩
  | 36, _ => exact ⟨_, rfl⟩
  | 37, _ => exact ⟨_, rfl⟩
  | 38, _ => exact ⟨_, rfl⟩
  | 39, _ => exact ⟨_, rfl⟩
  | 40, _ => exact ⟨_, rfl⟩
  | 41, _ => exact ⟨_, rfl⟩
  | 42, _ => exact ⟨_, rfl⟩
  | 43, _ => exact ⟨_, rfl⟩
  | i + 44, h => exact absurd h (by omega)
theorem st_gd {D : va_G} {A : Nat → Prop} {cI cL cS : ClassId} {q a1 a2 a3 a4 a5 a6 a7 a8 a11 a12 a13 a14 a15 a16 a17 a18 a21 a22 a23 a27 a28 a31 a34 a35 a38 a39 a42 a43 a46 a47 r b1 b4 b7 b10 b13 b16 b19 b22 b25 b28 b31 b34 : Nat} (hD : va_D A (W44 cI cL cS q a1 a2 a3 a4 a5 a6 a7 a8 a11 a12 a13 a14 a15 a16 a17 a18 a21 a22 a23 a27 a28 a31 a34 a35 a38 a39 a42 a43 a46 a47 r b1 b4 b7 b10 b13 b16 b19 b22 b25 b28 b31 b34)) : GD (Gs D A cI cL cS [q, a1, a2, a3, a4, a5, a6, a7, a8, a11, a12, a13, a14, a15, a16, a17, a18, a21, a22, a23, a27, a28, a31, a34, a38, a42, a46, a35, a39, a43, a47, r, b1, b4, b7, b10, b13, b16, b19, b22, b25, b28, b31, b34]) := by
  refine ⟨fun i j hi hj he => ?_, fun i hi => ?_⟩
  · obtain ⟨e1, h1⟩ := st_at (D := D) (A := A) (cI := cI) (cL := cL) (cS := cS) i hi
    obtain ⟨e2, h2⟩ := st_at (D := D) (A := A) (cI := cI) (cL := cL) (cS := cS) j hj
    have := pm_in ⟨i, hi⟩ ⟨j, hj⟩ (hD.1 _ _ _ _ h1 h2 he)
    exact congrArg Fin.val this
  · obtain ⟨e1, h1⟩ := st_at (D := D) (A := A) (cI := cI) (cL := cL) (cS := cS) i hi
    exact hD.2 _ _ h1
theorem st_hh {D : va_G} {A : Nat → Prop} {cI cL cS : ClassId} {q a1 a2 a3 a4 a5 a6 a7 a8 a11 a12 a13 a14 a15 a16 a17 a18 a21 a22 a23 a27 a28 a31 a34 a35 a38 a39 a42 a43 a46 a47 r b1 b4 b7 b10 b13 b16 b19 b22 b25 b28 b31 b34 : Nat} {H : Heap} (hP : va_P D vwCl (W44 cI cL cS q a1 a2 a3 a4 a5 a6 a7 a8 a11 a12 a13 a14 a15 a16 a17 a18 a21 a22 a23 a27 a28 a31 a34 a35 a38 a39 a42 a43 a46 a47 r b1 b4 b7 b10 b13 b16 b19 b22 b25 b28 b31 b34) H) : Hh (Gs D A cI cL cS [q, a1, a2, a3, a4, a5, a6, a7, a8, a11, a12, a13, a14, a15, a16, a17, a18, a21, a22, a23, a27, a28, a31, a34, a38, a42, a46, a35, a39, a43, a47, r, b1, b4, b7, b10, b13, b16, b19, b22, b25, b28, b31, b34]) mu0 H := by
  intro k q hk
  obtain ⟨hk44, rfl⟩ := wd_of hk
  clear hk
  match k, hk44 with
  | 0, _ =>
    have h := hP 0 _ rfl
    rw [en_5 (i := 0) rfl]
    simp only [mu0_n (show (0 : Nat) ≠ 32 by decide)]
    exact h
  | 1, _ =>
    have h := hP 1 _ rfl
    rw [en_4 (i := 1) rfl]
    simp only [mu0_n (show (1 : Nat) ≠ 32 by decide)]
    exact h
  | 2, _ =>
    have h := hP 2 _ rfl
    rw [en_8 (i := 2) rfl]
    exact (show H[ga (Gs D A cI cL cS [q, a1, a2, a3, a4, a5, a6, a7, a8, a11, a12, a13, a14, a15, a16, a17, a18, a21, a22, a23, a27, a28, a31, a34, a38, a42, a46, a35, a39, a43, a47, r, b1, b4, b7, b10, b13, b16, b19, b22, b25, b28, b31, b34]) 2]? = some _ from h).trans (congrArg some (rf_ext (fun j hj => by rcases (show j = 0 ∨ j = 1 ∨ j = 2 ∨ j = 3 ∨ j = 4 ∨ j = 5 by omega) with rfl | rfl | rfl | rfl | rfl | rfl <;> rfl)))
  | 3, _ =>
    have h := hP 3 _ rfl
    rw [en_0 (i := 3) rfl]
    simp only [mu0_n (show (3 : Nat) ≠ 32 by decide)]
    exact h
  | 4, _ =>
    have h := hP 4 _ rfl
    rw [en_0 (i := 4) rfl]
    simp only [mu0_n (show (4 : Nat) ≠ 32 by decide)]
    exact h
  | 5, _ =>
    have h := hP 5 _ rfl
    rw [en_0 (i := 5) rfl]
    simp only [mu0_n (show (5 : Nat) ≠ 32 by decide)]
    exact h
  | 6, _ =>
    have h := hP 6 _ rfl
    rw [en_0 (i := 6) rfl]
    simp only [mu0_n (show (6 : Nat) ≠ 32 by decide)]
    exact h
  | 7, _ =>
    have h := hP 7 _ rfl
    rw [en_0 (i := 7) rfl]
    simp only [mu0_n (show (7 : Nat) ≠ 32 by decide)]
    exact h
  | 8, _ =>
    have h := hP 8 _ rfl
    rw [en_0 (i := 8) rfl]
    simp only [mu0_n (show (8 : Nat) ≠ 32 by decide)]
    exact h
  | 9, _ =>
    have h := hP 9 _ rfl
    rw [en_4 (i := 9) rfl]
    simp only [mu0_n (show (9 : Nat) ≠ 32 by decide)]
    exact h
  | 10, _ =>
    have h := hP 10 _ rfl
    rw [en_8 (i := 10) rfl]
    exact (show H[ga (Gs D A cI cL cS [q, a1, a2, a3, a4, a5, a6, a7, a8, a11, a12, a13, a14, a15, a16, a17, a18, a21, a22, a23, a27, a28, a31, a34, a38, a42, a46, a35, a39, a43, a47, r, b1, b4, b7, b10, b13, b16, b19, b22, b25, b28, b31, b34]) 10]? = some _ from h).trans (congrArg some (rf_ext (fun j hj => by rcases (show j = 0 ∨ j = 1 ∨ j = 2 ∨ j = 3 ∨ j = 4 ∨ j = 5 by omega) with rfl | rfl | rfl | rfl | rfl | rfl <;> rfl)))
  | 11, _ =>
    have h := hP 11 _ rfl
    rw [en_0 (i := 11) rfl]
    simp only [mu0_n (show (11 : Nat) ≠ 32 by decide)]
    exact h
  | 12, _ =>
    have h := hP 12 _ rfl
    rw [en_0 (i := 12) rfl]
    simp only [mu0_n (show (12 : Nat) ≠ 32 by decide)]
    exact h
  | 13, _ =>
    have h := hP 13 _ rfl
    rw [en_0 (i := 13) rfl]
    simp only [mu0_n (show (13 : Nat) ≠ 32 by decide)]
    exact h
  | 14, _ =>
    have h := hP 14 _ rfl
    rw [en_0 (i := 14) rfl]
    simp only [mu0_n (show (14 : Nat) ≠ 32 by decide)]
    exact h
  | 15, _ =>
    have h := hP 15 _ rfl
    rw [en_0 (i := 15) rfl]
    simp only [mu0_n (show (15 : Nat) ≠ 32 by decide)]
    exact h
  | 16, _ =>
    have h := hP 16 _ rfl
    rw [en_0 (i := 16) rfl]
    simp only [mu0_n (show (16 : Nat) ≠ 32 by decide)]
    exact h
  | 17, _ =>
    have h := hP 17 _ rfl
    rw [en_2 (i := 17) rfl]
    simp only [mu0_n (show (17 : Nat) ≠ 32 by decide)]
    exact h
  | 18, _ =>
    have h := hP 18 _ rfl
    rw [en_7 (i := 18) rfl, mu0_z (show (18 : Nat) ≠ 32 by decide)]
    exact h
  | 19, _ =>
    have h := hP 19 _ rfl
    rw [en_7 (i := 19) rfl, mu0_z (show (19 : Nat) ≠ 32 by decide)]
    exact h
  | 20, _ =>
    have h := hP 20 _ rfl
    rw [en_1 (i := 20) rfl]
    simp only [mu0_n (show (20 : Nat) ≠ 32 by decide)]
    exact h
  | 21, _ =>
    have h := hP 21 _ rfl
    rw [en_7 (i := 21) rfl, mu0_z (show (21 : Nat) ≠ 32 by decide)]
    exact h
  | 22, _ =>
    have h := hP 22 _ rfl
    rw [en_9 (i := 22) rfl]
    exact (show H[ga (Gs D A cI cL cS [q, a1, a2, a3, a4, a5, a6, a7, a8, a11, a12, a13, a14, a15, a16, a17, a18, a21, a22, a23, a27, a28, a31, a34, a38, a42, a46, a35, a39, a43, a47, r, b1, b4, b7, b10, b13, b16, b19, b22, b25, b28, b31, b34]) 22]? = some _ from h).trans (congrArg some (rf_ext (fun j hj => by rcases (show j = 0 ∨ j = 1 ∨ j = 2 ∨ j = 3 by omega) with rfl | rfl | rfl | rfl <;> rfl)))
  | 23, _ =>
    have h := hP 23 _ rfl
    rw [en_3 (i := 23) rfl]
    simp only [mu0_n (show (23 : Nat) ≠ 32 by decide)]
    exact h
  | 24, _ =>
    have h := hP 25 _ rfl
    rw [en_3 (i := 24) rfl]
    simp only [mu0_n (show (24 : Nat) ≠ 32 by decide)]
    exact h
  | 25, _ =>
    have h := hP 27 _ rfl
    rw [en_3 (i := 25) rfl]
    simp only [mu0_n (show (25 : Nat) ≠ 32 by decide)]
    exact h
  | 26, _ =>
    have h := hP 29 _ rfl
    rw [en_3 (i := 26) rfl]
    simp only [mu0_n (show (26 : Nat) ≠ 32 by decide)]
    exact h
  | 27, _ =>
    have h := hP 24 _ rfl
    rw [en_7 (i := 27) rfl, mu0_z (show (27 : Nat) ≠ 32 by decide)]
    exact h
  | 28, _ =>
    have h := hP 26 _ rfl
    rw [en_7 (i := 28) rfl, mu0_z (show (28 : Nat) ≠ 32 by decide)]
    exact h
  | 29, _ =>
    have h := hP 28 _ rfl
    rw [en_7 (i := 29) rfl, mu0_z (show (29 : Nat) ≠ 32 by decide)]
    exact h
  | 30, _ =>
    have h := hP 30 _ rfl
    rw [en_7 (i := 30) rfl, mu0_z (show (30 : Nat) ≠ 32 by decide)]
    exact h
  | 31, _ =>
    have h := hP 31 _ rfl
    rw [en_6 (i := 31) rfl]
    simp only [mu0_n (show (31 : Nat) ≠ 32 by decide)]
    exact h
  | 32, _ =>
    have h := hP 32 _ rfl
    rw [en_7 (i := 32) rfl, mu0_32]
    exact h
  | 33, _ =>
    have h := hP 33 _ rfl
    rw [en_7 (i := 33) rfl, mu0_z (show (33 : Nat) ≠ 32 by decide)]
    exact h
  | 34, _ =>
    have h := hP 34 _ rfl
    rw [en_7 (i := 34) rfl, mu0_z (show (34 : Nat) ≠ 32 by decide)]
    exact h
  | 35, _ =>
    have h := hP 35 _ rfl
    rw [en_7 (i := 35) rfl, mu0_z (show (35 : Nat) ≠ 32 by decide)]
    exact h
  | 36, _ =>
    have h := hP 36 _ rfl
    rw [en_7 (i := 36) rfl, mu0_z (show (36 : Nat) ≠ 32 by decide)]
    exact h
  | 37, _ =>
    have h := hP 37 _ rfl
    rw [en_7 (i := 37) rfl, mu0_z (show (37 : Nat) ≠ 32 by decide)]
    exact h
  | 38, _ =>
    have h := hP 38 _ rfl
    rw [en_7 (i := 38) rfl, mu0_z (show (38 : Nat) ≠ 32 by decide)]
    exact h
  | 39, _ =>
    have h := hP 39 _ rfl
    rw [en_7 (i := 39) rfl, mu0_z (show (39 : Nat) ≠ 32 by decide)]
    exact h
  | 40, _ =>
    have h := hP 40 _ rfl
    rw [en_7 (i := 40) rfl, mu0_z (show (40 : Nat) ≠ 32 by decide)]
    exact h
  | 41, _ =>
    have h := hP 41 _ rfl
    rw [en_7 (i := 41) rfl, mu0_z (show (41 : Nat) ≠ 32 by decide)]
    exact h
  | 42, _ =>
    have h := hP 42 _ rfl
    rw [en_7 (i := 42) rfl, mu0_z (show (42 : Nat) ≠ 32 by decide)]
    exact h
  | 43, _ =>
    have h := hP 43 _ rfl
    rw [en_7 (i := 43) rfl, mu0_z (show (43 : Nat) ≠ 32 by decide)]
    exact h
  | k + 44, h => exact absurd h (by omega)
