/-! THE WORLD: 44 cells, named by numbers; a memory says what each cell's ints are; references never change -/
abbrev Mem : Type := Nat → Nat → Int32
def upR (μ : Mem) (i : Nat) (g : Nat → Int32) : Mem := fun a => if a = i then g else μ a
def up2 (μ : Mem) (i k : Nat) (v : Int32) : Mem := upR μ i (upd (μ i) k v)
theorem upR_s (μ : Mem) (i : Nat) (g : Nat → Int32) : upR μ i g i = g := if_pos rfl
theorem upR_n (μ : Mem) {i a : Nat} (g : Nat → Int32) (h : a ≠ i) : upR μ i g a = μ a := if_neg h
theorem up2_s (μ : Mem) (i k : Nat) (v : Int32) : up2 μ i k v i = upd (μ i) k v := upR_s _ _ _
theorem up2_n (μ : Mem) {i a : Nat} (k : Nat) (v : Int32) (h : a ≠ i) : up2 μ i k v a = μ a := upR_n _ _ h
def shT : List Nat := [5, 4, 8, 0, 0, 0, 0, 0, 0, 4, 8, 0, 0, 0, 0, 0, 0, 2, 7, 7, 1, 7, 9, 3, 3, 3, 3, 7, 7, 7, 7, 6, 7, 7, 7, 7, 7, 7, 7, 7, 7, 7, 7, 7]
def sh (i : Nat) : Nat := shT.getD i 99
def lnT : List Nat := [0, 0, 6, 0, 0, 0, 0, 0, 0, 0, 6, 0, 0, 0, 0, 0, 0, 0, 8, 8, 0, 6, 4, 0, 0, 0, 0, 60, 60, 60, 60, 0, 4, 4, 240, 6, 6, 6, 18, 6, 18, 8, 8, 8]
def ln (i : Nat) : Nat := lnT.getD i 0
theorem sh_lt {i k : Nat} (h : sh i = k) (hk : k < 10) : i < 44 := by
  by_cases hi : i < 44
  · exact hi
  · have : sh i = 99 := by
      unfold sh
      rw [List.getD_eq_getElem?_getD, List.getElem?_eq_none (by show 44 ≤ i; omega)]
      rfl
    omega
theorem sh_all {P : Nat → Prop} {i k : Nat} (hs : sh i = k) (hk : k < 10) (h : ∀ j : Fin 44, sh j.val = k → P j.val) : P i := h ⟨i, sh_lt hs hk⟩ hs
theorem sh_4 {w : Nat} (h : sh w = 4) : w = 1 ∨ w = 9 := sh_all (P := fun w => w = 1 ∨ w = 9) h (by decide) (by decide)
theorem sh_4a {w : Nat} (h : sh w = 4) : sh (w + 1) = 8 := by rcases sh_4 h with rfl | rfl <;> rfl
theorem sh_8 {a : Nat} (h : sh a = 8) : a = 2 ∨ a = 10 := sh_all (P := fun w => w = 2 ∨ w = 10) h (by decide) (by decide)
theorem sh_8l {a j : Nat} (h : sh a = 8) (hj : j < 6) : sh (a + 1 + j) = 0 := by
  rcases sh_8 h with rfl | rfl <;> (have : ∀ j : Fin 6, sh (2 + 1 + j.val) = 0 ∧ sh (10 + 1 + j.val) = 0 := by decide) <;> first | exact (this ⟨j, hj⟩).1 | exact (this ⟨j, hj⟩).2
theorem sh_9s {j : Nat} (hj : j < 4) : sh (22 + 1 + j) = 3 := by
  have : ∀ j : Fin 4, sh (22 + 1 + j.val) = 3 := by decide
  exact this ⟨j, hj⟩
theorem sh_3c {i : Nat} (h : sh i = 3) : sh (i + 4) = 7 ∧ ln (i + 4) = 60 := sh_all (P := fun i => sh (i + 4) = 7 ∧ ln (i + 4) = 60) h (by decide) (by decide)
theorem sh_3 {i : Nat} (h : sh i = 3) : i = 23 ∨ i = 24 ∨ i = 25 ∨ i = 26 := sh_all (P := fun i => i = 23 ∨ i = 24 ∨ i = 25 ∨ i = 26) h (by decide) (by decide)
/-- addresses; the classes of the arrays of ints, Layers, Sheets; the classes' numbers; what may be written -/
abbrev GT : Type := (Nat → Nat) × (ClassId × ClassId × ClassId) × va_G × (Nat → Prop)
def ga (G : GT) (i : Nat) : Nat := G.1 i
def gD (G : GT) : va_G := G.2.2.1
def gA (G : GT) : Nat → Prop := G.2.2.2
def gI (G : GT) : ClassId := G.2.1.1
def gL (G : GT) : ClassId := G.2.1.2.1
def gS (G : GT) : ClassId := G.2.1.2.2
def en (G : GT) (μ : Mem) (i : Nat) : va_E :=
  if sh i = 0 then .inr (0, [.int (μ i 0), .int (μ i 1), .int (μ i 2)])
  else if sh i = 1 then .inr (1, [.ref (ga G 21), .int (μ i 1)])
  else if sh i = 2 then .inr (2, [.ref (ga G 18), .ref (ga G 19), .int (μ i 2)])
  else if sh i = 3 then .inr (3, [.ref (ga G (i + 4)), .int (μ i 1), .int (μ i 2), .int (μ i 3)])
  else if sh i = 4 then .inr (4, [.ref (ga G (i + 1)), .int (μ i 1), .int (μ i 2), .int (μ i 3)])
  else if sh i = 5 then .inr (5, [.ref (ga G 1), .ref (ga G 9), .ref (ga G 17), .ref (ga G 20), .ref (ga G 22), .int (μ i 5), .int (μ i 6)])
  else if sh i = 6 then .inr (6, [.int (μ i 0), .int (μ i 1), .ref (ga G 32), .ref (ga G 33), .ref (ga G 34), .int (μ i 5), .int (μ i 6), .int (μ i 7), .ref (ga G 35), .ref (ga G 36), .ref (ga G 37), .int (μ i 11), .int (μ i 12), .int (μ i 13), .int (μ i 14), .ref (ga G 38), .ref (ga G 39), .ref (ga G 40), .int (μ i 18), .int (μ i 19), .int (μ i 20), .int (μ i 21), .int (μ i 22), .ref (ga G 41), .ref (ga G 42), .ref (ga G 43)])
  else if sh i = 7 then .inl (gI G, (ln i, .inl (μ i)))
  else if sh i = 8 then .inl (gL G, (6, .inr (.inr (.inr (.inr (fun j => some (ga G (i + 1 + j))))))))
  else .inl (gS G, (4, .inr (.inr (.inr (.inr (fun j => some (ga G (i + 1 + j))))))))
theorem en_0 {G : GT} {μ : Mem} {i : Nat} (h : sh i = 0) : en G μ i = .inr (0, [.int (μ i 0), .int (μ i 1), .int (μ i 2)]) := by simp [en, h]
theorem en_1 {G : GT} {μ : Mem} {i : Nat} (h : sh i = 1) : en G μ i = .inr (1, [.ref (ga G 21), .int (μ i 1)]) := by simp [en, h]
theorem en_2 {G : GT} {μ : Mem} {i : Nat} (h : sh i = 2) : en G μ i = .inr (2, [.ref (ga G 18), .ref (ga G 19), .int (μ i 2)]) := by simp [en, h]
theorem en_3 {G : GT} {μ : Mem} {i : Nat} (h : sh i = 3) : en G μ i = .inr (3, [.ref (ga G (i + 4)), .int (μ i 1), .int (μ i 2), .int (μ i 3)]) := by simp [en, h]
theorem en_4 {G : GT} {μ : Mem} {i : Nat} (h : sh i = 4) : en G μ i = .inr (4, [.ref (ga G (i + 1)), .int (μ i 1), .int (μ i 2), .int (μ i 3)]) := by simp [en, h]
theorem en_5 {G : GT} {μ : Mem} {i : Nat} (h : sh i = 5) : en G μ i = .inr (5, [.ref (ga G 1), .ref (ga G 9), .ref (ga G 17), .ref (ga G 20), .ref (ga G 22), .int (μ i 5), .int (μ i 6)]) := by simp [en, h]
theorem en_6 {G : GT} {μ : Mem} {i : Nat} (h : sh i = 6) : en G μ i = .inr (6, [.int (μ i 0), .int (μ i 1), .ref (ga G 32), .ref (ga G 33), .ref (ga G 34), .int (μ i 5), .int (μ i 6), .int (μ i 7), .ref (ga G 35), .ref (ga G 36), .ref (ga G 37), .int (μ i 11), .int (μ i 12), .int (μ i 13), .int (μ i 14), .ref (ga G 38), .ref (ga G 39), .ref (ga G 40), .int (μ i 18), .int (μ i 19), .int (μ i 20), .int (μ i 21), .int (μ i 22), .ref (ga G 41), .ref (ga G 42), .ref (ga G 43)]) := by simp [en, h]
theorem en_7 {G : GT} {μ : Mem} {i : Nat} (h : sh i = 7) : en G μ i = .inl (gI G, (ln i, .inl (μ i))) := by simp [en, h]
theorem en_8 {G : GT} {μ : Mem} {i : Nat} (h : sh i = 8) : en G μ i = .inl (gL G, (6, .inr (.inr (.inr (.inr (fun j => some (ga G (i + 1 + j)))))))) := by simp [en, h]
theorem en_9 {G : GT} {μ : Mem} {i : Nat} (h : sh i = 9) : en G μ i = .inl (gS G, (4, .inr (.inr (.inr (.inr (fun j => some (ga G (i + 1 + j)))))))) := by simp [en, h]
theorem en_ob {G : GT} {μ : Mem} {i k : Nat} (h : sh i = k) (hk : k < 7) : ∃ fs, en G μ i = .inr (k, fs) := by
  have : k = 0 ∨ k = 1 ∨ k = 2 ∨ k = 3 ∨ k = 4 ∨ k = 5 ∨ k = 6 := by omega
  rcases this with rfl | rfl | rfl | rfl | rfl | rfl | rfl
  · exact ⟨_, en_0 h⟩
  · exact ⟨_, en_1 h⟩
  · exact ⟨_, en_2 h⟩
  · exact ⟨_, en_3 h⟩
  · exact ⟨_, en_4 h⟩
  · exact ⟨_, en_5 h⟩
  · exact ⟨_, en_6 h⟩
theorem en_ext {G : GT} {μ μ' : Mem} {i : Nat} (h : μ i = μ' i) : en G μ i = en G μ' i := by simp only [en, h]
def wd (G : GT) (μ : Mem) : va_W := (List.range 44).map (fun i => (ga G i, en G μ i))
theorem wd_get {G : GT} {μ : Mem} {i : Nat} (h : i < 44) : (wd G μ)[i]? = some (ga G i, en G μ i) := by
  unfold wd
  rw [List.getElem?_map, List.getElem?_range h]
  rfl
theorem wd_of {G : GT} {μ : Mem} {i : Nat} {q : Nat × va_E} (h : (wd G μ)[i]? = some q) : i < 44 ∧ q = (ga G i, en G μ i) := by
  have hl : i < 44 := by
    have := (List.getElem?_eq_some_iff.mp h).1
    simpa [wd] using this
  rw [wd_get hl] at h
  exact ⟨hl, (Option.some.inj h).symm⟩
theorem wd_set {G : GT} {μ : Mem} {i : Nat} {g : Nat → Int32} {e : va_E} (he : e = en G (upR μ i g) i) : (wd G μ).set i (ga G i, e) = wd G (upR μ i g) := by
  apply List.ext_getElem?
  intro j
  by_cases hj : j < 44
  · rw [wd_get hj]
    by_cases hji : j = i
    · subst hji
      rw [List.getElem?_set_self (by simpa [wd] using hj), he]
    · rw [List.getElem?_set_ne (Ne.symm hji), wd_get hj, en_ext (upR_n μ g hji)]
  · rw [List.getElem?_eq_none (by simp [wd]; omega), List.getElem?_eq_none (by simp [wd]; omega)]
def GD (G : GT) : Prop := (∀ i j, i < 44 → j < 44 → ga G i = ga G j → i = j) ∧ ∀ i, i < 44 → gA G (ga G i)
theorem GD.D {G : GT} (h : GD G) (μ : Mem) : va_D (gA G) (wd G μ) := by
  refine ⟨fun i j p q hi hj hpq => ?_, fun k q hk => ?_⟩
  · obtain ⟨h1, rfl⟩ := wd_of hi
    obtain ⟨h2, rfl⟩ := wd_of hj
    exact h.1 i j h1 h2 hpq
  · obtain ⟨h1, rfl⟩ := wd_of hk
    exact h.2 k h1
def Hh (G : GT) (μ : Mem) (H : Heap) : Prop := va_P (gD G) vwCl (wd G μ) H
abbrev tyG (G : GT) : List (ClassId × FieldType) := [(gI G, .int), (gL G, .object RX0), (gS G, .object RX3)]
def KK (G : GT) (U : State) : Prop := va_K (gD G) vwCl (tyG G) U ∧ va_Nw (.methodLinkNest RX4 98 yX5_kindOf RX5) U
theorem KK.warm {G : GT} {s U : State} (h : KK G s) (hW : s.WarmedH U.vm) : KK G U := ⟨va_K.moved hW.alike h.1, va_Nw.warmM hW h.2⟩
def Qg (G : GT) (ro : Option Value) (μ : Mem) : Array Value → State → Outcome → State → Prop := fun _ st oc t => (oc = .returned ro ∧ Hh G μ t.heap) ∧ va_F (gA G) st t
/-- from the memory μ the method comes to the answer ro and the memory μ' -/
def Ct (l : Launch) (y : MethodName) (ws : List Cond) (rm : Room) (G : GT) (av : List Value) (μ : Mem) (ro : Option Value) (μ' : Mem) : Prop :=
  Met l y ws rm (va_Pc av (fun U => Hh G μ U.heap ∧ KK G U)) (Qg G ro μ') 0 0 (gA G)
def Fx (p : Program) (s : State) (m : MethodId) (args : Array Value) (meth : Method) (c : Code) (cc : ByteArray) (nL : Nat) (Ts : List Cond) (own : String) (ret : Option FieldType) (G : GT) : Prop :=
  CallFix p m c cc nL s args Ts own ∧ meth.sig.returnType = ret ∧ meth.locks = false ∧ KK G s ∧ GD G
theorem Ct.of {l : Launch} {y : MethodName} {ws ws' : List Cond} {rm : Room} {G : GT} {av : List Value} {μ : Mem} {ro : Option Value} {μ' : Mem} {cc : ByteArray} {maxL : Nat} {ret : Option FieldType} {own : String}
    (hG : GD G) (hy : plainName y.cls = true) (hw : ws = Cond.code y cc maxL ret :: ws') (ho : y.cls = own) (hlen : (lg_sl av).length ≤ maxL)
    (body : ∀ (p : Program) (e : Env) (s : State) (m : MethodId) (args : Array Value) (below : List Frame) (meth : Method) (c : Code) (ls : Array Slot) (H : Heap) (locs : List Loc), Fx p s m args meth c cc maxL ws own ret G → lv_has ls maxL (lv_args 0 av) → Hh G μ H → va_S (gA G) s.heap H locs →
      W p l e rm s m args below meth c H locs 0 0 (MQ below (Qg G ro μ') args s 0 0 (gA G)) (F0 m 0 ls [])) : Ct l y ws rm G av μ ro μ' := by
  refine Met.ofW (cc := cc) (maxL := maxL) (ret := ret) hy hw ?_
  intro p e s m args below meth c s₁ B hml hv
  obtain ⟨rfl, hP, hK⟩ := hv
  have hts := atoms_spec (ws := ws) B.pre
  have hown : s.vm.findClass y.cls = some m.cls := findClass_of_methodNamed B.named
  rw [ho] at hown
  have hl := lv_entry av (n := maxL) hlen
  rw [lg_entry_eq]
  exact body p e s m _ below meth c _ s.heap [] ⟨⟨B.exec, B.bytes, hml, hown, hts⟩, B.returns, B.notSynchronized, hK, hG⟩ hl hP va_S.rf
theorem ift {α : Type} {c : Prop} {h : Decidable c} {a b r : α} (hc : c) (hf : @ite α c h a b = r) : a = r := by rw [if_pos hc] at hf; exact hf
theorem iff_ {α : Type} {c : Prop} {h : Decidable c} {a b r : α} (hc : ¬ c) (hf : @ite α c h a b = r) : b = r := by rw [if_neg hc] at hf; exact hf
theorem ifs {α : Type} {c : Prop} {h : Decidable c} {a : Option α} {r : α} (hf : @ite (Option α) c h a none = some r) : c ∧ a = some r := by
  by_cases hc : c
  · rw [if_pos hc] at hf; exact ⟨hc, hf⟩
  · rw [if_neg hc] at hf; cases hf
def bnd {α β : Type} (o : Option (α × Mem)) (k : α → Mem → Option β) : Option β := match o with
  | none => none
  | some q => k q.1 q.2
theorem bnd_some {α β : Type} {o : Option (α × Mem)} {k : α → Mem → Option β} {r : β} (h : bnd o k = some r) : ∃ (a : α) (μ : Mem), o = some (a, μ) ∧ k a μ = some r := by
  cases o with
  | none => cases h
  | some q => exact ⟨q.1, q.2, rfl, h⟩
theorem bnd_s {α β : Type} {a : α} {μ : Mem} {k : α → Mem → Option β} : bnd (some (a, μ)) k = k a μ := rfl
abbrev inb (x : Int32) (n : Nat) : Prop := 0 ≤ x.toInt ∧ x.toInt < n
theorem inb_in {x : Int32} {n : Nat} (h : inb x n) : vp_in x n := vp_in_iff.mpr h
theorem inb_lt {x : Int32} {n : Nat} (h : inb x n) : x.toNatClampNeg < n := by
  have h1 := h.1
  have h2 := h.2
  have : x.toNatClampNeg = x.toInt.toNat := rfl
  omega
abbrev isb (x : Int32) : Prop := x = 0 ∨ x = 1
theorem isb_n {x : Int32} (h : isb x) : narrow .boolean (.int x) = .int x := by rcases h with rfl | rfl <;> rfl
section PR
variable {p : Program} {l : Launch} {e : Env} {R : Room} {s : State} {m : MethodId} {args : Array Value} {below : List Frame} {meth : Method} {c : Code} {H : Heap} {locs : List Loc} {cells slots : Nat} {Q : State → Prop}
variable {cc : ByteArray} {pc : Nat} {ls : Array Slot} {rest : List Value} {nL : Nat} {Ts : List Cond} {own : String} {ret : Option FieldType} {G : GT} {μ μ' : Mem} {α : Type} {a b r : α}
/-! ends -/
theorem retI {v w : Int32} (F : Fx p s m args meth c cc nL Ts own (some .int) G) (hP : Hh G μ H) (hS : va_S (gA G) s.heap H locs) (hdg : decode cc pc = .ok (.ireturn, 1)) (hf : some (v, μ) = some (w, μ')) :
    W p l e R s m args below meth c H locs 0 0 (MQ below (Qg G (some (.int w)) μ') args s 0 0 (gA G)) (F0 m pc ls [.int v]) := by
  cases hf
  exact W.iret F.1.1 F.1.2.1 F.2.1 (fun t ht _ => ⟨⟨rfl, by rw [ht]; exact hP⟩, hS.F ht⟩) hS.2.2 hdg F.2.2.1
theorem retZ {v w : Int32} (F : Fx p s m args meth c cc nL Ts own (some .boolean) G) (hP : Hh G μ H) (hS : va_S (gA G) s.heap H locs) (hdg : decode cc pc = .ok (.ireturn, 1)) (hf : (if isb v then some (v, μ) else none) = some (w, μ')) :
    W p l e R s m args below meth c H locs 0 0 (MQ below (Qg G (some (.int w)) μ') args s 0 0 (gA G)) (F0 m pc ls [.int v]) := by
  obtain ⟨hb, hf⟩ := ifs hf
  cases hf
  exact W.zret F.1.1 F.1.2.1 F.2.1 (isb_n hb) (fun t ht _ => ⟨⟨rfl, by rw [ht]; exact hP⟩, hS.F ht⟩) hS.2.2 hdg F.2.2.1
theorem retC {v w : Int32} (F : Fx p s m args meth c cc nL Ts own (some .boolean) G) (hP : Hh G μ H) (hS : va_S (gA G) s.heap H locs) (hdg : decode cc pc = .ok (.ireturn, 1)) (hb : isb v) (hf : some (v, μ) = some (w, μ')) :
    W p l e R s m args below meth c H locs 0 0 (MQ below (Qg G (some (.int w)) μ') args s 0 0 (gA G)) (F0 m pc ls [.int v]) := by
  cases hf
  exact W.zret F.1.1 F.1.2.1 F.2.1 (isb_n hb) (fun t ht _ => ⟨⟨rfl, by rw [ht]; exact hP⟩, hS.F ht⟩) hS.2.2 hdg F.2.2.1
theorem retL {v w : Int64} (F : Fx p s m args meth c cc nL Ts own (some .long) G) (hP : Hh G μ H) (hS : va_S (gA G) s.heap H locs) (hdg : decode cc pc = .ok (.lreturn, 1)) (hf : some (v, μ) = some (w, μ')) :
    W p l e R s m args below meth c H locs 0 0 (MQ below (Qg G (some (.long w)) μ') args s 0 0 (gA G)) (F0 m pc ls [.long v]) := by
  cases hf
  exact W.lret F.1.1 F.1.2.1 F.2.1 (fun t ht _ => ⟨⟨rfl, by rw [ht]; exact hP⟩, hS.F ht⟩) hS.2.2 hdg F.2.2.1
theorem retV {v w : Unit} (F : Fx p s m args meth c cc nL Ts own none G) (hP : Hh G μ H) (hS : va_S (gA G) s.heap H locs) (hdg : decode cc pc = .ok (.return_, 1)) (hf : some (v, μ) = some (w, μ')) :
    W p l e R s m args below meth c H locs 0 0 (MQ below (Qg G none μ') args s 0 0 (gA G)) (F0 m pc ls []) := by
  cases hf
  exact W.vret F.1.1 F.1.2.1 F.2.1 (fun t ht _ => ⟨⟨rfl, by rw [ht]; exact hP⟩, hS.F ht⟩) hS.2.2 hdg F.2.2.1
def vo (G : GT) (o : Option Nat) : Value := va_rf (o.map (ga G))
theorem retA {C : String} {v : Nat} {w : Option Nat} (F : Fx p s m args meth c cc nL Ts own (some (.object C)) G) (hP : Hh G μ H) (hS : va_S (gA G) s.heap H locs) (hdg : decode cc pc = .ok (.areturn, 1)) (hf : some (some v, μ) = some (w, μ')) :
    W p l e R s m args below meth c H locs 0 0 (MQ below (Qg G (some (vo G w)) μ') args s 0 0 (gA G)) (F0 m pc ls [.ref (ga G v)]) := by
  cases hf
  exact W.aret F.1.1 F.1.2.1 F.2.1 (Or.inl ⟨_, rfl⟩) (Or.inr ⟨_, rfl⟩) (fun t ht _ => ⟨⟨rfl, by rw [ht]; exact hP⟩, hS.F ht⟩) hS.2.2 hdg F.2.2.1
theorem retN {C : String} {w : Option Nat} (F : Fx p s m args meth c cc nL Ts own (some (.object C)) G) (hP : Hh G μ H) (hS : va_S (gA G) s.heap H locs) (hdg : decode cc pc = .ok (.areturn, 1)) (hf : some (none, μ) = some (w, μ')) :
    W p l e R s m args below meth c H locs 0 0 (MQ below (Qg G (some (vo G w)) μ') args s 0 0 (gA G)) (F0 m pc ls [.null]) := by
  cases hf
  exact W.aret F.1.1 F.1.2.1 F.2.1 (Or.inl ⟨_, rfl⟩) (Or.inl rfl) (fun t ht _ => ⟨⟨rfl, by rw [ht]; exact hP⟩, hS.F ht⟩) hS.2.2 hdg F.2.2.1
end PR
