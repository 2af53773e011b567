/-! ===== what stands around: words of nest mates, statics, rows that nobody writes, String constants ===== -/
def isNest : Cond → Bool
  | .fieldLinkNest .. => true
  | .methodLinkNest .. => true
  | _ => false
def TBL : List Cond := lw_tbl.filter goodWord
theorem tbl_mem {w : Cond} (i : Nat) (h : lw_tbl[i]? = some w) (hg : goodWord w = true) : w ∈ TBL := List.mem_filter.mpr ⟨List.mem_of_getElem? h, hg⟩
theorem tbl_good : ∀ w ∈ TBL, (w.onTables && w.keeps) = true ∨ ∃ ty, w = .arrayClass ty := fun w h => good_of_word (List.mem_filter.mp h).2
def roArr : List (Nat × FieldType × List Int) := [(90, .int, [0, 0, 1, 0, 0, 0, 0]), (91, .int, [4, 2, 9, 30, 20, 20, 20])]
def roStat (G : Nv) : List (String × String × String × Value) := [("WheelsWidths", "PART_LEAST", "[I", .ref (G.2.1 90)), ("WheelsWidths", "PART_MOST", "[I", .ref (G.2.1 91)), ("java/lang/String", "COMPACT_STRINGS", "Z", .int 1), ("jdk/internal/util/Preconditions", "SIOOBE_FORMATTER", "Ljava/util/function/BiFunction;", va_rf G.2.2.2)]
def roTx : List (List Int) := [[121, 97, 114, 100, 115], [98, 111, 103], [104, 105, 108, 108], [115, 109, 105, 116, 104], [116, 111, 108, 108], [114, 117, 116], [102, 114, 111, 115, 116], [99, 97, 114, 116], [99, 111, 115, 116], [112, 108, 97, 105, 110], [100, 111, 117, 98, 108, 101], [115, 108, 101, 100, 103, 101], [104, 105, 114, 101, 100], [115, 109, 117, 103, 103, 108, 101, 114]]
def roStr : List (Nat × String × Nat) := [(103, "yards", 0), (112, "bog", 1), (117, "hill", 2), (122, "smith", 3), (127, "toll", 4), (132, "rut", 5), (137, "frost", 6), (142, "cart", 7), (147, "cost", 8), (224, "plain", 9), (226, "double", 10), (228, "sledge", 11), (230, "hired", 12), (232, "smuggler", 13)]
def Amb (G : Nv) (A : Nat → Prop) (U : State) (H : Heap) : Prop :=
  (∀ w ∈ tables_1, isNest w = true → va_Nw w U) ∧
  (∀ z ∈ roStat G, va_Z z.1 z.2.1 z.2.2.1 z.2.2.2 A U H) ∧
  (∀ r ∈ roArr, va_T r.2.1 (G.2.1 r.1) r.2.2.length (fun j => .int (Int32.ofInt (r.2.2.getD j 0))) A U H) ∧
  vk_S 14 (roTx.map List.length) (roTx.map (fun t => t.map Int32.ofInt)) (fun i => G.2.1 (100 + i)) (fun i => G.2.1 (120 + i)) A U H ∧
  (∀ r ∈ roStr, vk_R "WheelsWidths$Reader" r.1 r.2.1 (G.2.1 (100 + r.2.2)) U)
theorem Amb.warm {G : Nv} {A : Nat → Prop} {s U : State} {H : Heap} (hW : s.WarmedH U.vm) (h : Amb G A s H) : Amb G A U H := by
  obtain ⟨h1, h2, h3, h4, h5⟩ := h
  refine ⟨fun w hw hn => ?_, fun z hz => (h2 z hz).moved hW.alike, fun r hr => (h3 r hr).moved hW.alike, h4.moved hW.alike, fun r hr => (h5 r hr).warm hW⟩
  have h := h1 w hw hn
  unfold isNest at hn
  split at hn
  · exact va_Nw.warmF hW h
  · exact va_Nw.warmM hW h
  · cases hn
theorem Amb.kept {G : Nv} {A : Nat → Prop} {U : State} {H H1 : Heap} (h : Amb G A U H) (hq : ∀ a : Nat, a < H.size → ¬ A a → H1[a]? = H[a]?) : Amb G A U H1 :=
  ⟨h.1, fun z hz => (h.2.1 z hz).kept hq, fun r hr => (h.2.2.1 r hr).kept hq, h.2.2.2.1.kept hq, h.2.2.2.2⟩
theorem Amb.narrow {G : Nv} {A B : Nat → Prop} {U : State} {H : Heap} (h : Amb G A U H) (hAB : ∀ q, B q → A q) : Amb G B U H :=
  ⟨h.1, fun z hz => (h.2.1 z hz).narrow hAB, fun r hr => (h.2.2.1 r hr).narrow hAB, h.2.2.2.1.narrow hAB, h.2.2.2.2⟩
theorem Amb.same {G : Nv} {A : Nat → Prop} {U V : State} {H : Heap} (hv : U.vm = V.vm) (h : Amb G A U H) : Amb G A V H := by
  obtain ⟨h1, h2, h3, h4, h5⟩ := h
  have ha : U.vm.Alike V.vm := by rw [hv]; exact Vm.Alike.refl _
  refine ⟨fun w hw hn => ?_, fun z hz => (h2 z hz).moved ha, fun r hr => (h3 r hr).moved ha, h4.moved ha, fun r hr => (h5 r hr).same hv.symm⟩
  have h := h1 w hw hn
  unfold isNest at hn
  split at hn
  · exact va_Nw.same rfl hv h
  · exact va_Nw.same rfl hv h
  · cases hn
/-! ===== a method: its name, bytes, locals, answer, frames and locals' room below it ===== -/
abbrev MD := MethodName × ByteArray × Nat × Option FieldType × Nat × Nat
abbrev MD.code (M : MD) : Cond := Cond.code M.1 M.2.1 M.2.2.1 M.2.2.2.1
def wsM (M : MD) : List Cond := MD.code M :: TBL
def rmM (M : MD) : Room := { frames := M.2.2.2.2.1, cells := 0, slots := 0, locals := M.2.2.2.2.2 }
def tysOf (G : Nv) : List (ClassId × FieldType) := [(G.2.2.1 0, .int), (G.2.2.1 1, .byte), (G.2.2.1 2, .boolean)]
def okr (ret : Option FieldType) (r : Option MV) : Prop :=
  match r with
  | none => True
  | some v => okv v ∧ (ret = some .boolean → ∃ x : Int, v = vI x ∧ (x = 0 ∨ x = 1))
def WA (G : Nv) (Sh : Shp) (sz : Nat) : Nat → Prop := fun q => (∃ k, k < Sh.length ∧ q = G.2.1 k) ∨ sz ≤ q
def QcOf (G : Nv) (Sh : Shp) (M : MD) (A : Nat → Prop) (Q : Option MV → Mem → Prop) : Array Value → State → Outcome → State → Prop := fun _ st oc t =>
  (∃ (r : Option MV) (μ : Mem), oc = .returned (r.map (rv G)) ∧ Q r μ ∧ okr M.2.2.2.1 r ∧ okMem Sh μ ∧ va_P G.1 vwCl (wsOf G Sh μ) t.heap ∧ va_K G.1 vwCl (tysOf G) t ∧ va_D A (wsOf G Sh μ)) ∧ va_F A st t
def PcOf (G : Nv) (Sh : Shp) (as : List MV) (μ : Mem) (sz : Nat) : Array Value → State → Prop := va_Pc (as.map (rv G)) (fun U => U.heap.size = sz ∧ va_P G.1 vwCl (wsOf G Sh μ) U.heap ∧ va_K G.1 vwCl (tysOf G) U ∧ va_D (fun _ => True) (wsOf G Sh μ) ∧ Amb G (WA G Sh sz) U U.heap)
/-- method M, called with as at memory μ: it returns, and Q holds of its answer and the memory then -/
def Sp (l : Launch) (G : Nv) (Sh : Shp) (M : MD) (as : List MV) (μ : Mem) (Q : Option MV → Mem → Prop) : Prop :=
  (∀ v ∈ as, okv v) → okMem Sh μ → ∀ sz : Nat, Met l M.1 (wsM M) (rmM M) (PcOf G Sh as μ sz) (QcOf G Sh M (WA G Sh sz) Q) 0 0 (WA G Sh sz)
def lvl (G : Nv) (lv : List (Option MV)) : List (Nat × Value) := (List.range lv.length).filterMap (fun i => (lv[i]?.join).map (fun v => (i, rv G v)))
theorem lvl_mem {G : Nv} {lv : List (Option MV)} {i : Nat} {v : MV} (h : lv[i]? = some (some v)) : (i, rv G v) ∈ lvl G lv := by
  refine List.mem_filterMap.mpr ⟨i, List.mem_range.mpr (List.getElem?_eq_some_iff.mp h).1, ?_⟩
  rw [h]; rfl
theorem lvl_mem' {G : Nv} {lv : List (Option MV)} {q : Nat × Value} (h : q ∈ lvl G lv) : ∃ v, lv[q.1]? = some (some v) ∧ q.2 = rv G v := by
  obtain ⟨i, -, h2⟩ := List.mem_filterMap.mp h
  cases hx : lv[i]? with
  | none => rw [hx] at h2; cases h2
  | some o =>
    cases o with
    | none => rw [hx] at h2; cases h2
    | some v =>
      rw [hx] at h2
      cases h2
      exact ⟨v, hx, rfl⟩
def okl (lv : List (Option MV)) : Prop := ∀ (i : Nat) (v : MV), lv[i]? = some (some v) → okv v
def oks (st : List MV) : Prop := ∀ v ∈ st, okv v
/-- what stays the same in a method's run -/
def RX (l : Launch) (G : Nv) (M : MD) (p : Program) (s : State) (m : MethodId) (args : Array Value) (meth : Method) (c : Code) (A : Nat → Prop) : Prop :=
  p.tables.exec = Jvm.exec ∧ c.code = M.2.1 ∧ c.maxLocals = M.2.2.1 ∧ meth.sig.returnType = M.2.2.2.1 ∧ meth.locks = false ∧ s.vm.findClass M.1.cls = some m.cls ∧ (∀ w ∈ wsM M, w.before args s = true) ∧ va_K G.1 vwCl (tysOf G) s ∧ Amb G A s s.heap ∧ (∀ q, s.heap.size ≤ q → A q)
/-- method M from pc on, with these locals, stack and memory, comes to an end with Q -/
def RA (l : Launch) (G : Nv) (Sh : Shp) (M : MD) (Q : Option MV → Mem → Prop) (pc : Nat) (lv : List (Option MV)) (st : List MV) (μ : Mem) : Prop :=
  ∀ (p : Program) (e : Env) (s : State) (m : MethodId) (args : Array Value) (below : List Frame) (meth : Method) (c : Code) (H : Heap) (locs : List Loc) (ls : Array Slot),
    RX l G M p s m args meth c (WA G Sh s.heap.size) → va_P G.1 vwCl (wsOf G Sh μ) H → va_D (WA G Sh s.heap.size) (wsOf G Sh μ) → va_S (WA G Sh s.heap.size) s.heap H locs → lv_has ls M.2.2.1 (lvl G lv) → lv.length = M.2.2.1 → okMem Sh μ → okl lv → oks st →
    W p l e (rmM M) s m args below meth c H locs 0 0 (MQ below (QcOf G Sh M (WA G Sh s.heap.size) Q) args s 0 0 (WA G Sh s.heap.size)) (F0 m pc ls (st.map (rv G)))
theorem ra_go {l : Launch} {G : Nv} {Sh : Shp} {M : MD} {Q : Option MV → Mem → Prop} {pc pc' : Nat} {lv : List (Option MV)} {st st' : List MV} {μ : Mem} (hk : oks st → okl lv → okMem Sh μ → oks st')
    (h : ∀ (p : Program) (e : Env) (s : State) (m : MethodId) (args : Array Value) (below : List Frame) (meth : Method) (c : Code) (H : Heap) (locs : List Loc) (ls : Array Slot) (QQ : State → Prop), RX l G M p s m args meth c (WA G Sh s.heap.size) → va_P G.1 vwCl (wsOf G Sh μ) H → va_S (WA G Sh s.heap.size) s.heap H locs → lv_has ls M.2.2.1 (lvl G lv) → okMem Sh μ → okl lv → oks st → W p l e (rmM M) s m args below meth c H locs 0 0 QQ (F0 m pc' ls (st'.map (rv G))) → W p l e (rmM M) s m args below meth c H locs 0 0 QQ (F0 m pc ls (st.map (rv G))))
    (k : RA l G Sh M Q pc' lv st' μ) : RA l G Sh M Q pc lv st μ := by
  intro p e s m args below meth c H locs ls X hP hD hS hl hn hm hol hos
  exact h p e s m args below meth c H locs ls _ X hP hS hl hm hol hos (k p e s m args below meth c H locs ls X hP hD hS hl hn hm hol (hk hos hol hm))
