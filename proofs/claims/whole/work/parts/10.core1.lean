/-! ===== the picture: cells by number, their contents as whole numbers ===== -/
abbrev Mem := Nat → Nat → Int
def mset (μ : Mem) (k i : Nat) (v : Int) : Mem := fun a b => if a = k ∧ b = i then v else μ a b
abbrev C32 (x : Int) : Prop := -2147483648 ≤ x ∧ x < 2147483648
abbrev C64 (x : Int) : Prop := -9223372036854775808 ≤ x ∧ x < 9223372036854775808
def wI (x : Int) : Int := (Int32.ofInt x).toInt
def wL (x : Int) : Int := (Int64.ofInt x).toInt
abbrev MV := Int ⊕ Int ⊕ Nat ⊕ Unit
abbrev vI (x : Int) : MV := Sum.inl x
abbrev vL (x : Int) : MV := Sum.inr (Sum.inl x)
abbrev vR (k : Nat) : MV := Sum.inr (Sum.inr (Sum.inl k))
abbrev vN : MV := Sum.inr (Sum.inr (Sum.inr ()))
/-- classes and slots, addresses, array classes, one value that is passed on -/
abbrev Nv := va_G × (Nat → Nat) × (Nat → ClassId) × Option Nat
def rv (G : Nv) : MV → Value
  | .inl x => .int (Int32.ofInt x)
  | .inr (.inl x) => .long (Int64.ofInt x)
  | .inr (.inr (.inl k)) => .ref (G.2.1 k)
  | .inr (.inr (.inr _)) => va_rf G.2.2.2
def okv : MV → Prop
  | .inl x => C32 x
  | .inr (.inl x) => C64 x
  | .inr (.inr _) => True
def catv : MV → Nat
  | .inr (.inl _) => 2
  | _ => 1
theorem catv_rv (G : Nv) (v : MV) : (rv G v).category = catv v := by
  rcases v with x | x | k | u
  · rfl
  · rfl
  · rfl
  · show (va_rf G.2.2.2).category = 1
    cases G.2.2.2 <;> rfl
/-- a cell's shape: kind (0 ints, 1 bytes, 2 booleans, 3 and class), length, slots (0 int, 1 long, 2 boolean, 3 and cell) -/
abbrev She := Nat × Nat × List Nat
abbrev Shp := List She
def slotV (G : Nv) (f : Nat → Int) (i code : Nat) : Value :=
  match code with
  | 0 => .int (Int32.ofInt (f i))
  | 1 => .long (Int64.ofInt (f i))
  | 2 => .int (Int32.ofInt (f i))
  | j + 3 => .ref (G.2.1 j)
def cellE (G : Nv) (e : She) (f : Nat → Int) : va_E :=
  match e.1 with
  | 0 => .inl (G.2.2.1 0, (e.2.1, .inl (fun i => Int32.ofInt (f i))))
  | 1 => .inl (G.2.2.1 1, (e.2.1, .inl (fun i => Int32.ofInt (f i))))
  | 2 => .inl (G.2.2.1 2, (e.2.1, .inl (fun i => Int32.ofInt (f i))))
  | j + 3 => .inr (j, e.2.2.mapIdx (slotV G f))
def wsOf (G : Nv) (Sh : Shp) (μ : Mem) : va_W := Sh.mapIdx (fun k e => (G.2.1 k, cellE G e (μ k)))
theorem wsOf_at {G : Nv} {Sh : Shp} {μ : Mem} {k : Nat} {e : She} (h : Sh[k]? = some e) : (wsOf G Sh μ)[k]? = some (G.2.1 k, cellE G e (μ k)) := by
  simp [wsOf, List.getElem?_mapIdx, h]
theorem wsOf_set {G : Nv} {Sh : Shp} {μ μ' : Mem} {k : Nat} {e : She} {x : va_E} (h : Sh[k]? = some e) (hx : x = cellE G e (μ' k)) (ho : ∀ a, a ≠ k → μ' a = μ a) : (wsOf G Sh μ).set k (G.2.1 k, x) = wsOf G Sh μ' := by
  subst hx
  apply List.ext_getElem?
  intro i
  by_cases hi : i = k
  · subst hi
    have hl : i < (wsOf G Sh μ).length := by
      have := (List.getElem?_eq_some_iff.mp h).1
      simpa [wsOf] using this
    rw [List.getElem?_set_self hl, wsOf_at h]
  · rw [List.getElem?_set_ne (Ne.symm hi)]
    simp only [wsOf, List.getElem?_mapIdx, ho i hi]
theorem mset_row {μ : Mem} {k i : Nat} {v : Int} : mset μ k i v k = fun b => if b = i then v else μ k b := by
  funext b; simp [mset]
theorem mset_off {μ : Mem} {k i a : Nat} {v : Int} (h : a ≠ k) : mset μ k i v a = μ a := by
  funext b; simp [mset, h]
/-- memory is in bounds: long slots as longs, all else as ints -/
def okMem (Sh : Shp) (μ : Mem) : Prop := ∀ k e, Sh[k]? = some e → ∀ i, if e.2.2[i]? = some 1 then C64 (μ k i) else C32 (μ k i)
theorem okMem.i {Sh : Shp} {μ : Mem} {k i : Nat} {e : She} (h : okMem Sh μ) (hk : Sh[k]? = some e) (hi : ¬ e.2.2[i]? = some 1) : C32 (μ k i) := by
  have := h k e hk i
  rwa [if_neg hi] at this
theorem okMem.l {Sh : Shp} {μ : Mem} {k i : Nat} {e : She} (h : okMem Sh μ) (hk : Sh[k]? = some e) (hi : e.2.2[i]? = some 1) : C64 (μ k i) := by
  have := h k e hk i
  rwa [if_pos hi] at this
theorem okMem.set {Sh : Shp} {μ : Mem} {k i : Nat} {v : Int} {e : She} (h : okMem Sh μ) (hk : Sh[k]? = some e) (hv : if e.2.2[i]? = some 1 then C64 v else C32 v) : okMem Sh (mset μ k i v) := by
  intro a e' ha j
  by_cases hak : a = k
  · subst hak
    cases hk.symm.trans ha
    by_cases hj : j = i
    · subst hj
      simpa [mset] using hv
    · have := h a e hk j
      simpa [mset, hj] using this
  · have := h a e' ha j
    rw [mset_off hak]
    exact this
theorem wI_C (x : Int) : C32 (wI x) := by
  have h1 := Int32.le_toInt (Int32.ofInt x)
  have h2 := Int32.toInt_lt (Int32.ofInt x)
  exact ⟨by simpa [wI] using h1, by simpa [wI] using h2⟩
theorem i32_C (x : Int32) : C32 x.toInt := by
  have h1 := Int32.le_toInt x
  have h2 := Int32.toInt_lt x
  exact ⟨by simpa using h1, by simpa using h2⟩
theorem i64_C (x : Int64) : C64 x.toInt := by
  have h1 := Int64.le_toInt x
  have h2 := Int64.toInt_lt x
  exact ⟨by simpa using h1, by simpa using h2⟩
theorem wI_of {x : Int} (h : C32 x) : wI x = x := by
  unfold wI
  exact Int32.toInt_ofInt_of_le (by simpa using h.1) (by simpa using h.2)
theorem wL_of {x : Int} (h : C64 x) : wL x = x := by
  unfold wL
  exact Int64.toInt_ofInt_of_le (by simpa using h.1) (by simpa using h.2)
theorem i32_toInt {x : Int} (h : C32 x) : (Int32.ofInt x).toInt = x := wI_of h
theorem i64_toInt {x : Int} (h : C64 x) : (Int64.ofInt x).toInt = x := wL_of h
theorem i32_lt {x y : Int} (hx : C32 x) (hy : C32 y) : Int32.ofInt x < Int32.ofInt y ↔ x < y := by
  rw [Int32.lt_iff_toInt_lt, i32_toInt hx, i32_toInt hy]
theorem i32_le {x y : Int} (hx : C32 x) (hy : C32 y) : Int32.ofInt x ≤ Int32.ofInt y ↔ x ≤ y := by
  rw [Int32.le_iff_toInt_le, i32_toInt hx, i32_toInt hy]
theorem i32_eq {x y : Int} (hx : C32 x) (hy : C32 y) : Int32.ofInt x = Int32.ofInt y ↔ x = y := by
  rw [← Int32.toInt_inj, i32_toInt hx, i32_toInt hy]
theorem i64_lt {x y : Int} (hx : C64 x) (hy : C64 y) : Int64.ofInt x < Int64.ofInt y ↔ x < y := by
  rw [Int64.lt_iff_toInt_lt, i64_toInt hx, i64_toInt hy]
theorem i64_eq {x y : Int} (hx : C64 x) (hy : C64 y) : Int64.ofInt x = Int64.ofInt y ↔ x = y := by
  rw [← Int64.toInt_inj, i64_toInt hx, i64_toInt hy]
theorem ofInt_wI (x : Int) : Int32.ofInt (wI x) = Int32.ofInt x := by unfold wI; exact Int32.ofInt_toInt _
theorem ofInt_wL (x : Int) : Int64.ofInt (wL x) = Int64.ofInt x := by unfold wL; exact Int64.ofInt_toInt _
