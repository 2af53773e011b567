/-! ===== constructors: a world that grows, cell by cell ===== -/
def rmN (M : MD) (mc ms : Nat) : Room := { frames := M.2.2.2.2.1, cells := mc, slots := ms, locals := M.2.2.2.2.2 }
def QcN (G : Nv) (ws0 : va_W) (sz : Nat) (Q : va_W → Prop) : Array Value → State → Outcome → State → Prop := fun _ st oc t =>
  (∃ ws' : va_W, oc = .returned none ∧ Q ws' ∧ va_P G.1 vwCl ws' t.heap ∧ va_K G.1 vwCl (tysOf G) t ∧ va_D (va_A ws0 sz) ws') ∧ va_F (va_A ws0 sz) st t
def PcN (G : Nv) (av : List Value) (ws0 : va_W) (sz : Nat) : Array Value → State → Prop := va_Pc av (fun U => U.heap.size = sz ∧ va_P G.1 vwCl ws0 U.heap ∧ va_K G.1 vwCl (tysOf G) U ∧ va_D (fun _ => True) ws0 ∧ Amb G (va_A ws0 sz) U U.heap)
def SpN (l : Launch) (G : Nv) (M : MD) (av : List Value) (ws0 : va_W) (mc ms : Nat) (Q : va_W → Prop) : Prop := ∀ sz : Nat, Met l M.1 (wsM M) (rmN M mc ms) (PcN G av ws0 sz) (QcN G ws0 sz Q) mc ms (va_A ws0 sz)
def RN (l : Launch) (G : Nv) (M : MD) (mc ms : Nat) (ws0 : va_W) (Q : va_W → Prop) (pc : Nat) (lv : List (Nat × Value)) (st : List Value) (ws : va_W) (k n : Nat) : Prop :=
  ∀ (p : Program) (e : Env) (s : State) (m : MethodId) (args : Array Value) (below : List Frame) (meth : Method) (c : Code) (H : Heap) (locs : List Loc) (ls : Array Slot),
    RX l G M p s m args meth c (va_A ws0 s.heap.size) → meth.name = "<init>" → va_P G.1 vwCl ws H → va_D (va_A ws0 s.heap.size) ws → va_S (va_A ws0 s.heap.size) s.heap H locs → lv_has ls M.2.2.1 lv →
    W p l e (rmN M mc ms) s m args below meth c H locs k n (MQ below (QcN G ws0 s.heap.size Q) args s mc ms (va_A ws0 s.heap.size)) (F0 m pc ls st)
theorem rn_aload_n {l : Launch} {G : Nv} {M : MD} {mc ms : Nat} {ws0 : va_W} {Q : va_W → Prop} {pc pc' : Nat} {lv : List (Nat × Value)} {st : List Value} {ws : va_W} {k n : Nat} {j : Fin 4} {i x : Nat} (hd : decode M.2.1 pc = .ok (.aload_n j, 1)) (hp : pc + 1 = pc') (hj : (j : Nat) = i) (hg : (i, Value.ref x) ∈ lv) (kk : RN l G M mc ms ws0 Q pc' lv (.ref x :: st) ws k n) : RN l G M mc ms ws0 Q pc lv (st) ws k n := by
  subst hp
  intro p e s m args below meth c H locs ls X hin hP hD hS hl
  exact lv_aload_n X.1 X.2.1 hd hj (hl.2.2 _ hg) (kk p e s m args below meth c H locs ls X hin hP hD hS hl)
theorem rn_iload_n {l : Launch} {G : Nv} {M : MD} {mc ms : Nat} {ws0 : va_W} {Q : va_W → Prop} {pc pc' : Nat} {lv : List (Nat × Value)} {st : List Value} {ws : va_W} {k n : Nat} {j : Fin 4} {i : Nat} {x : Int32} (hd : decode M.2.1 pc = .ok (.iload_n j, 1)) (hp : pc + 1 = pc') (hj : (j : Nat) = i) (hg : (i, Value.int x) ∈ lv) (kk : RN l G M mc ms ws0 Q pc' lv (.int x :: st) ws k n) : RN l G M mc ms ws0 Q pc lv (st) ws k n := by
  subst hp
  intro p e s m args below meth c H locs ls X hin hP hD hS hl
  exact lv_iload_n X.1 X.2.1 hd hj (hl.2.2 _ hg) (kk p e s m args below meth c H locs ls X hin hP hD hS hl)
theorem rn_istore_n {l : Launch} {G : Nv} {M : MD} {mc ms : Nat} {ws0 : va_W} {Q : va_W → Prop} {pc pc' : Nat} {lv : List (Nat × Value)} {st : List Value} {ws : va_W} {k n : Nat} {j : Fin 4} {i : Nat} {x : Int32} {lv' : List (Nat × Value)} (hd : decode M.2.1 pc = .ok (.istore_n j, 1)) (hp : pc + 1 = pc') (hj : (j : Nat) = i) (hi : i < M.2.2.1) (he : (i, Value.int x) :: lv.filter (fun q => !(q.1 == i) && !(q.1 + 1 == i && q.2.category == 2)) = lv') (kk : RN l G M mc ms ws0 Q pc' lv' (st) ws k n) : RN l G M mc ms ws0 Q pc lv (.int x :: st) ws k n := by
  subst hp
  intro p e s m args below meth c H locs ls X hin hP hD hS hl
  exact lv_istore_n X.1 X.2.1 hd hj hl hi he (fun ls' hl' => kk p e s m args below meth c H locs ls' X hin hP hD hS hl')
theorem rn_iinc {l : Launch} {G : Nv} {M : MD} {mc ms : Nat} {ws0 : va_W} {Q : va_W → Prop} {pc pc' : Nat} {lv : List (Nat × Value)} {st : List Value} {ws : va_W} {k n : Nat} {i : Nat} {a : Int} {x v : Int32} {lv' : List (Nat × Value)} (hd : decode M.2.1 pc = .ok (.iinc i a, 3)) (hp : pc + 3 = pc') (hg : (i, Value.int x) ∈ lv) (hv : x + Int32.ofInt a = v) (hi : i < M.2.2.1) (he : (i, Value.int v) :: lv.filter (fun q => !(q.1 == i) && !(q.1 + 1 == i && q.2.category == 2)) = lv') (kk : RN l G M mc ms ws0 Q pc' lv' (st) ws k n) : RN l G M mc ms ws0 Q pc lv (st) ws k n := by
  subst hp
  intro p e s m args below meth c H locs ls X hin hP hD hS hl
  obtain ⟨j, hj⟩ := List.getElem?_of_mem hg
  exact lv_iinc X.1 X.2.1 hd hl hj hv hi he (fun ls' hl' => kk p e s m args below meth c H locs ls' X hin hP hD hS hl')
theorem rn_ge_t {l : Launch} {G : Nv} {M : MD} {mc ms : Nat} {ws0 : va_W} {Q : va_W → Prop} {pc pc' : Nat} {lv : List (Nat × Value)} {st : List Value} {ws : va_W} {k n : Nat} {x y : Int32} {off : Int} (hd : decode M.2.1 pc = .ok (.if_icmp .ge off, 3)) (ht : (pc : Int) + off = (pc' : Int)) (h : y ≤ x) (kk : RN l G M mc ms ws0 Q pc' lv (st) ws k n) : RN l G M mc ms ws0 Q pc lv (.int y :: .int x :: st) ws k n := by
  intro p e s m args below meth c H locs ls X hin hP hD hS hl
  exact lv_icmp_ge X.1 X.2.1 hd ht (fun _ => kk p e s m args below meth c H locs ls X hin hP hD hS hl) (fun z => absurd h z)
theorem rn_ge_f {l : Launch} {G : Nv} {M : MD} {mc ms : Nat} {ws0 : va_W} {Q : va_W → Prop} {pc pc' : Nat} {lv : List (Nat × Value)} {st : List Value} {ws : va_W} {k n : Nat} {x y : Int32} {off : Int} {tgt : Nat} (hd : decode M.2.1 pc = .ok (.if_icmp .ge off, 3)) (hp : pc + 3 = pc') (ht : (pc : Int) + off = (tgt : Int)) (h : ¬ y ≤ x) (kk : RN l G M mc ms ws0 Q pc' lv (st) ws k n) : RN l G M mc ms ws0 Q pc lv (.int y :: .int x :: st) ws k n := by
  subst hp
  intro p e s m args below meth c H locs ls X hin hP hD hS hl
  exact lv_icmp_ge X.1 X.2.1 hd ht (fun z => absurd z h) (fun _ => kk p e s m args below meth c H locs ls X hin hP hD hS hl)
theorem rn_goto {l : Launch} {G : Nv} {M : MD} {mc ms : Nat} {ws0 : va_W} {Q : va_W → Prop} {pc pc' : Nat} {lv : List (Nat × Value)} {st : List Value} {ws : va_W} {k n : Nat} {off : Int} (hd : decode M.2.1 pc = .ok (.goto off, 3)) (ht : (pc : Int) + off = (pc' : Int)) (kk : RN l G M mc ms ws0 Q pc' lv (st) ws k n) : RN l G M mc ms ws0 Q pc lv (st) ws k n := by
  intro p e s m args below meth c H locs ls X hin hP hD hS hl
  exact lv_goto X.1 X.2.1 hd ht (kk p e s m args below meth c H locs ls X hin hP hD hS hl)
theorem rn_iconst {l : Launch} {G : Nv} {M : MD} {mc ms : Nat} {ws0 : va_W} {Q : va_W → Prop} {pc pc' : Nat} {lv : List (Nat × Value)} {st : List Value} {ws : va_W} {k n : Nat} {a : Int} {v : Int32} (hd : decode M.2.1 pc = .ok (.iconst a, 1)) (hp : pc + 1 = pc') (hv : Int32.ofInt a = v) (kk : RN l G M mc ms ws0 Q pc' lv (.int v :: st) ws k n) : RN l G M mc ms ws0 Q pc lv (st) ws k n := by
  subst hp
  intro p e s m args below meth c H locs ls X hin hP hD hS hl
  exact lv_iconst X.1 X.2.1 hd hv (kk p e s m args below meth c H locs ls X hin hP hD hS hl)
theorem rn_bipush {l : Launch} {G : Nv} {M : MD} {mc ms : Nat} {ws0 : va_W} {Q : va_W → Prop} {pc pc' : Nat} {lv : List (Nat × Value)} {st : List Value} {ws : va_W} {k n : Nat} {a : Int} {v : Int32} (hd : decode M.2.1 pc = .ok (.bipush a, 2)) (hp : pc + 2 = pc') (hv : (Int8.ofInt a).toInt32 = v) (kk : RN l G M mc ms ws0 Q pc' lv (.int v :: st) ws k n) : RN l G M mc ms ws0 Q pc lv (st) ws k n := by
  subst hp
  intro p e s m args below meth c H locs ls X hin hP hD hS hl
  exact lv_bipush X.1 X.2.1 hd hv (kk p e s m args below meth c H locs ls X hin hP hD hS hl)
theorem rn_sipush {l : Launch} {G : Nv} {M : MD} {mc ms : Nat} {ws0 : va_W} {Q : va_W → Prop} {pc pc' : Nat} {lv : List (Nat × Value)} {st : List Value} {ws : va_W} {k n : Nat} {a : Int} {v : Int32} (hd : decode M.2.1 pc = .ok (.sipush a, 3)) (hp : pc + 3 = pc') (hv : (Int16.ofInt a).toInt32 = v) (kk : RN l G M mc ms ws0 Q pc' lv (.int v :: st) ws k n) : RN l G M mc ms ws0 Q pc lv (st) ws k n := by
  subst hp
  intro p e s m args below meth c H locs ls X hin hP hD hS hl
  exact lv_sipush X.1 X.2.1 hd hv (kk p e s m args below meth c H locs ls X hin hP hD hS hl)
theorem rn_lconst {l : Launch} {G : Nv} {M : MD} {mc ms : Nat} {ws0 : va_W} {Q : va_W → Prop} {pc pc' : Nat} {lv : List (Nat × Value)} {st : List Value} {ws : va_W} {k n : Nat} {a : Fin 2} {v : Int64} (hd : decode M.2.1 pc = .ok (.lconst a, 1)) (hp : pc + 1 = pc') (hv : Int64.ofNat (a : Nat) = v) (kk : RN l G M mc ms ws0 Q pc' lv (.long v :: st) ws k n) : RN l G M mc ms ws0 Q pc lv (st) ws k n := by
  subst hp
  intro p e s m args below meth c H locs ls X hin hP hD hS hl
  exact lv_lconst X.1 X.2.1 hd hv (kk p e s m args below meth c H locs ls X hin hP hD hS hl)
theorem rn_dup {l : Launch} {G : Nv} {M : MD} {mc ms : Nat} {ws0 : va_W} {Q : va_W → Prop} {pc pc' : Nat} {lv : List (Nat × Value)} {st : List Value} {ws : va_W} {k n : Nat} {v : Value} (hd : decode M.2.1 pc = .ok (.dup, 1)) (hp : pc + 1 = pc') (hv : v.category = 1) (kk : RN l G M mc ms ws0 Q pc' lv (v :: v :: st) ws k n) : RN l G M mc ms ws0 Q pc lv (v :: st) ws k n := by
  subst hp
  intro p e s m args below meth c H locs ls X hin hP hD hS hl
  exact lv_dup X.1 X.2.1 hd hv (kk p e s m args below meth c H locs ls X hin hP hD hS hl)
theorem rn_ret {l : Launch} {G : Nv} {M : MD} {mc ms : Nat} {ws0 : va_W} {Q : va_W → Prop} {pc : Nat} {lv : List (Nat × Value)} {ws : va_W} (hd : decode M.2.1 pc = .ok (.return_, 1)) (hr : M.2.2.2.1 = none) (hQ : Q ws) : RN l G M mc ms ws0 Q pc lv [] ws mc ms := by
  intro p e s m args below meth c H locs ls X hin hP hD hS hl
  have hlocks := X.2.2.2.2.1
  exact W.vret X.1 X.2.1 (X.2.2.2.1.trans hr) (fun t ht hW => ⟨⟨ws, rfl, hQ, by rw [ht]; exact hP, va_K.moved hW.alike X.2.2.2.2.2.2.2.1, hD⟩, hS.F ht⟩) hS.2.2 hd
theorem rn_eq {l : Launch} {G : Nv} {M : MD} {mc ms : Nat} {ws0 : va_W} {Q : va_W → Prop} {pc : Nat} {lv : List (Nat × Value)} {st : List Value} {ws : va_W} {k n : Nat} {ws' : va_W} {k' n' : Nat} (h : ws = ws') (hk : k = k') (hn : n = n') (kk : RN l G M mc ms ws0 Q pc lv st ws' k' n') : RN l G M mc ms ws0 Q pc lv (st) ws k n := by subst h; subst hk; subst hn; exact kk
theorem rn_objinit {l : Launch} {G : Nv} {M : MD} {mc ms : Nat} {ws0 : va_W} {Q : va_W → Prop} {pc pc' : Nat} {lv : List (Nat × Value)} {ws : va_W} {k n : Nat} {idx a : Nat} (hd : decode M.2.1 pc = .ok (.invokespecial idx, 3)) (hp : pc + 3 = pc') (hw : Cond.methodLink M.1.cls idx Lib.objectInit ∈ TBL) (hi : Cond.instanceMethod Lib.objectInit ∈ TBL) (hc : Cond.code Lib.objectInit ⟨#[0xb1]⟩ 1 none ∈ TBL) (hf : 1 ≤ M.2.2.2.2.1) (hlo : 12 ≤ M.2.2.2.2.2) (kk : RN l G M mc ms ws0 Q pc' lv [] ws k n) : RN l G M mc ms ws0 Q pc lv [.ref a] ws k n := by
  subst hp
  intro p e s m args below meth c H locs ls X hin hP hD hS hl
  refine W.objInit X.1 X.2.1 X.2.2.2.2.2.1 (X.2.2.2.2.2.2.1 _ (List.mem_cons_of_mem _ (hw))) (X.2.2.2.2.2.2.1 _ (List.mem_cons_of_mem _ (hi))) (X.2.2.2.2.2.2.1 _ (List.mem_cons_of_mem _ (hc))) rfl (by rw [X.2.2.1]; exact hl.1) rfl hd hf hlo ?_
  refine W.eq (g2 := F0 m (pc + 3) ls []) rfl ?_
  exact kk p e s m args below meth c H locs ls X hin hP hD hS hl
theorem rn_new {l : Launch} {G : Nv} {M : MD} {mc ms : Nat} {ws0 : va_W} {Q : va_W → Prop} {pc pc' : Nat} {lv : List (Nat × Value)} {st : List Value} {ws : va_W} {k n : Nat} {idx ci N : Nat} {C : String} {T : u_T} {ty : Nat → FieldType} {fs : List Value} (hc : ClsOK ci C T N ty) (hd : decode M.2.1 pc = .ok (.new idx, 3)) (hp : pc + 3 = pc') (hw : Cond.classLink M.1.cls idx C ∈ TBL) (hi : Cond.instantiable C N ∈ TBL) (hini : Cond.initialized C ∈ TBL) (hfs : ∀ j, j < N → defaultValue (ty j) = vp_V fs j) (hk : k + 1 ≤ mc) (hn : n + N ≤ ms) (kk : ∀ q : Nat, RN l G M mc ms ws0 Q pc' lv (.ref q :: st) (ws ++ [(q, .inr (ci, fs))]) (k + 1) (n + N)) : RN l G M mc ms ws0 Q pc lv (st) ws k n := by
  subst hp
  intro p e s m args below meth c H locs ls X hin hP hD hS hl
  exact va_new (D := G.1) (ci := ci) (fs := fs) (C := C) (T := T) (N := N) X.1 X.2.1 X.2.2.2.2.2.2.1 (fun w h => List.mem_cons_of_mem _ (hc.2.1 w h)) ty hc.2.2.1 X.2.2.2.2.2.1 (X.2.2.2.2.2.2.1 _ (List.mem_cons_of_mem _ (hw))) (X.2.2.2.2.2.2.1 _ (List.mem_cons_of_mem _ (hi))) (X.2.2.2.2.2.2.1 _ (List.mem_cons_of_mem _ (hini))) X.2.2.2.2.2.2.2.1 hP hD hS X.2.2.2.2.2.2.2.2.2 hc.1 hfs hk hn hd (fun q H1 hP1 hD1 hS1 => kk q p e s m args below meth c H1 locs ls X hin hP1 hD1 hS1 hl)
theorem rn_arrI {l : Launch} {G : Nv} {M : MD} {mc ms : Nat} {ws0 : va_W} {Q : va_W → Prop} {pc pc' : Nat} {lv : List (Nat × Value)} {st : List Value} {ws : va_W} {k n : Nat} {a : Int32} {N : Nat} (hd : decode M.2.1 pc = .ok (.newarray .int, 2)) (hp : pc + 2 = pc') (hw : Cond.arrayClass .int ∈ TBL) (h0 : ¬ a < 0) (hN : a.toNatClampNeg = N) (hb : N * componentBytes .int ≤ 536870912) (hk : k + 1 ≤ mc) (hn : n + N ≤ ms) (kk : ∀ q : Nat, RN l G M mc ms ws0 Q pc' lv (.ref q :: st) (ws ++ [(q, .inl (G.2.2.1 0, N, .inl (fun _ => 0)))]) (k + 1) (n + N)) : RN l G M mc ms ws0 Q pc lv (.int a :: st) ws k n := by
  subst hp
  intro p e s m args below meth c H locs ls X hin hP hD hS hl
  refine va_newa (D := G.1) (atype := .int) (ty := .int) (a0 := (N, .inl (fun _ => 0))) X.1 X.2.1 (X.2.2.2.2.2.2.1 _ (List.mem_cons_of_mem _ (hw))) rfl X.2.2.2.2.2.2.2.1 hP hD hS X.2.2.2.2.2.2.2.2.2 (fun cA => rfl) h0 hN hb hk hn hd (fun q cA H1 hK1 hP1 hD1 hS1 => ?_)
  have e1 : cA = G.2.2.1 0 := by
    have h1 := (hK1.2 3 (cA, .int) rfl).2
    have h2 := (hK1.2 0 (G.2.2.1 0, .int) rfl).2
    have h1 : s.vm.findClass ("[" ++ FieldType.toString .int) = some cA := h1
    have h2 : s.vm.findClass ("[" ++ FieldType.toString .int) = some (G.2.2.1 0) := h2
    exact Option.some.inj (h1.symm.trans h2)
  subst e1
  exact kk q p e s m args below meth c H1 locs ls X hin hP1 hD1 hS1 hl
theorem rn_arrB {l : Launch} {G : Nv} {M : MD} {mc ms : Nat} {ws0 : va_W} {Q : va_W → Prop} {pc pc' : Nat} {lv : List (Nat × Value)} {st : List Value} {ws : va_W} {k n : Nat} {a : Int32} {N : Nat} (hd : decode M.2.1 pc = .ok (.newarray .byte, 2)) (hp : pc + 2 = pc') (hw : Cond.arrayClass .byte ∈ TBL) (h0 : ¬ a < 0) (hN : a.toNatClampNeg = N) (hb : N * componentBytes .byte ≤ 536870912) (hk : k + 1 ≤ mc) (hn : n + N ≤ ms) (kk : ∀ q : Nat, RN l G M mc ms ws0 Q pc' lv (.ref q :: st) (ws ++ [(q, .inl (G.2.2.1 1, N, .inl (fun _ => 0)))]) (k + 1) (n + N)) : RN l G M mc ms ws0 Q pc lv (.int a :: st) ws k n := by
  subst hp
  intro p e s m args below meth c H locs ls X hin hP hD hS hl
  refine va_newa (D := G.1) (atype := .byte) (ty := .byte) (a0 := (N, .inl (fun _ => 0))) X.1 X.2.1 (X.2.2.2.2.2.2.1 _ (List.mem_cons_of_mem _ (hw))) rfl X.2.2.2.2.2.2.2.1 hP hD hS X.2.2.2.2.2.2.2.2.2 (fun cA => rfl) h0 hN hb hk hn hd (fun q cA H1 hK1 hP1 hD1 hS1 => ?_)
  have e1 : cA = G.2.2.1 1 := by
    have h1 := (hK1.2 3 (cA, .byte) rfl).2
    have h2 := (hK1.2 1 (G.2.2.1 1, .byte) rfl).2
    have h1 : s.vm.findClass ("[" ++ FieldType.toString .byte) = some cA := h1
    have h2 : s.vm.findClass ("[" ++ FieldType.toString .byte) = some (G.2.2.1 1) := h2
    exact Option.some.inj (h1.symm.trans h2)
  subst e1
  exact kk q p e s m args below meth c H1 locs ls X hin hP1 hD1 hS1 hl
theorem rn_arrZ {l : Launch} {G : Nv} {M : MD} {mc ms : Nat} {ws0 : va_W} {Q : va_W → Prop} {pc pc' : Nat} {lv : List (Nat × Value)} {st : List Value} {ws : va_W} {k n : Nat} {a : Int32} {N : Nat} (hd : decode M.2.1 pc = .ok (.newarray .boolean, 2)) (hp : pc + 2 = pc') (hw : Cond.arrayClass .boolean ∈ TBL) (h0 : ¬ a < 0) (hN : a.toNatClampNeg = N) (hb : N * componentBytes .boolean ≤ 536870912) (hk : k + 1 ≤ mc) (hn : n + N ≤ ms) (kk : ∀ q : Nat, RN l G M mc ms ws0 Q pc' lv (.ref q :: st) (ws ++ [(q, .inl (G.2.2.1 2, N, .inl (fun _ => 0)))]) (k + 1) (n + N)) : RN l G M mc ms ws0 Q pc lv (.int a :: st) ws k n := by
  subst hp
  intro p e s m args below meth c H locs ls X hin hP hD hS hl
  refine va_newa (D := G.1) (atype := .boolean) (ty := .boolean) (a0 := (N, .inl (fun _ => 0))) X.1 X.2.1 (X.2.2.2.2.2.2.1 _ (List.mem_cons_of_mem _ (hw))) rfl X.2.2.2.2.2.2.2.1 hP hD hS X.2.2.2.2.2.2.2.2.2 (fun cA => rfl) h0 hN hb hk hn hd (fun q cA H1 hK1 hP1 hD1 hS1 => ?_)
  have e1 : cA = G.2.2.1 2 := by
    have h1 := (hK1.2 3 (cA, .boolean) rfl).2
    have h2 := (hK1.2 2 (G.2.2.1 2, .boolean) rfl).2
    have h1 : s.vm.findClass ("[" ++ FieldType.toString .boolean) = some cA := h1
    have h2 : s.vm.findClass ("[" ++ FieldType.toString .boolean) = some (G.2.2.1 2) := h2
    exact Option.some.inj (h1.symm.trans h2)
  subst e1
  exact kk q p e s m args below meth c H1 locs ls X hin hP1 hD1 hS1 hl
theorem rn_putF {l : Launch} {G : Nv} {M : MD} {mc ms : Nat} {ws0 : va_W} {Q : va_W → Prop} {pc pc' : Nat} {lv : List (Nat × Value)} {st : List Value} {ws : va_W} {k n : Nat} {idx ci j N i0 a : Nat} {C : String} {T : u_T} {ty : Nat → FieldType} {fs : List Value} {v : Value} {ws' : va_W} (hc : ClsOK ci C T N ty) (hd : decode M.2.1 pc = .ok (.putfield idx, 3)) (hp : pc + 3 = pc') (he : ws[i0]? = some (a, .inr (ci, fs))) (hk : j < N) (hw : Cond.fieldLink M.1.cls idx C (T j).2.1 (T j).2.2.1 ∈ TBL) (hfin : (T j).2.2.2 = true) (ho : M.1.cls = C) (hn : narrow (ty j) v = v) (hf : fits (ty j) v = true) (hlen : j < fs.length) (hs : ws.set i0 (a, .inr (ci, fs.set j v)) = ws') (kk : RN l G M mc ms ws0 Q pc' lv (st) ws' k n) : RN l G M mc ms ws0 Q pc lv (v :: .ref a :: st) ws k n := by
  subst hp; subst hs
  intro p e s m args below meth c H locs ls X hin hP hD hS hl
  exact va_putF (D := G.1) (ci := ci) (v := v) (ty := ty j) (C := C) (T := T) (N := N) X.1 X.2.1 X.2.2.2.2.2.2.1 (fun w h => List.mem_cons_of_mem _ (hc.2.1 w h)) ty hc.2.2.1 hc.2.2.2.1 X.2.2.2.2.2.1 X.2.2.2.2.2.2.2.1 hP hD hS i0 he hc.1 j hk (X.2.2.2.2.2.2.1 _ (List.mem_cons_of_mem _ (hw))) (fun x hx => by rw [← hc.2.2.2.2 j hk]; exact hx) hfin hin ((hc.2.2.2.2 j hk).trans ho.symm) (hc.2.2.1 j hk) hn hf hlen hd (fun H1 locs1 hP1 hD1 hS1 => kk p e s m args below meth c H1 locs1 ls X hin hP1 hD1 hS1 hl)
theorem rn_put {l : Launch} {G : Nv} {M : MD} {mc ms : Nat} {ws0 : va_W} {Q : va_W → Prop} {pc pc' : Nat} {lv : List (Nat × Value)} {st : List Value} {ws : va_W} {k n : Nat} {idx ci j N i0 a : Nat} {C : String} {T : u_T} {ty : Nat → FieldType} {fs : List Value} {v : Value} {ws' : va_W} (hc : ClsOK ci C T N ty) (hd : decode M.2.1 pc = .ok (.putfield idx, 3)) (hp : pc + 3 = pc') (he : ws[i0]? = some (a, .inr (ci, fs))) (hk : j < N) (hw : Cond.fieldLink M.1.cls idx C (T j).2.1 (T j).2.2.1 ∈ TBL) (hfin : (T j).2.2.2 = false) (hn : narrow (ty j) v = v) (hf : fits (ty j) v = true) (hlen : j < fs.length) (hs : ws.set i0 (a, .inr (ci, fs.set j v)) = ws') (kk : RN l G M mc ms ws0 Q pc' lv (st) ws' k n) : RN l G M mc ms ws0 Q pc lv (v :: .ref a :: st) ws k n := by
  subst hp; subst hs
  intro p e s m args below meth c H locs ls X hin hP hD hS hl
  exact va_put (D := G.1) (ci := ci) (v := v) (ty := ty j) (C := C) (T := T) (N := N) X.1 X.2.1 X.2.2.2.2.2.2.1 (fun w h => List.mem_cons_of_mem _ (hc.2.1 w h)) ty hc.2.2.1 hc.2.2.2.1 X.2.2.2.2.2.1 X.2.2.2.2.2.2.2.1 hP hD hS i0 he hc.1 j hk (X.2.2.2.2.2.2.1 _ (List.mem_cons_of_mem _ (hw))) (fun x hx => by rw [← hc.2.2.2.2 j hk]; exact hx) hfin (hc.2.2.1 j hk) hn hf hlen hd (fun H1 locs1 hP1 hD1 hS1 => kk p e s m args below meth c H1 locs1 ls X hin hP1 hD1 hS1 hl)
theorem rn_get {l : Launch} {G : Nv} {M : MD} {mc ms : Nat} {ws0 : va_W} {Q : va_W → Prop} {pc pc' : Nat} {lv : List (Nat × Value)} {st : List Value} {ws : va_W} {k n : Nat} {idx ci j N i0 a : Nat} {C : String} {T : u_T} {ty : Nat → FieldType} {fs : List Value} {v : Value} (hc : ClsOK ci C T N ty) (hd : decode M.2.1 pc = .ok (.getfield idx, 3)) (hp : pc + 3 = pc') (he : ws[i0]? = some (a, .inr (ci, fs))) (hk : j < N) (hw : Cond.fieldLink M.1.cls idx C (T j).2.1 (T j).2.2.1 ∈ TBL) (hv : fs[j]? = some v) (kk : RN l G M mc ms ws0 Q pc' lv (v :: st) ws k n) : RN l G M mc ms ws0 Q pc lv (.ref a :: st) ws k n := by
  subst hp
  intro p e s m args below meth c H locs ls X hin hP hD hS hl
  exact va_get (D := G.1) (ci := ci) (v := v) (C := C) (T := T) (N := N) X.1 X.2.1 X.2.2.2.2.2.2.1 (fun w h => List.mem_cons_of_mem _ (hc.2.1 w h)) X.2.2.2.2.2.1 X.2.2.2.2.2.2.2.1 hP i0 he hc.1 j hk (X.2.2.2.2.2.2.1 _ (List.mem_cons_of_mem _ (hw))) (fun x hx => by rw [← hc.2.2.2.2 j hk]; exact hx) hv hd (kk p e s m args below meth c H locs ls X hin hP hD hS hl)
theorem rn_iast {l : Launch} {G : Nv} {M : MD} {mc ms : Nat} {ws0 : va_W} {Q : va_W → Prop} {pc pc' : Nat} {lv : List (Nat × Value)} {st : List Value} {ws : va_W} {k n : Nat} {i0 a N : Nat} {f : Nat → Int32} {i x : Int32} {ws' : va_W} (hd : decode M.2.1 pc = .ok (.iastore, 1)) (hp : pc + 1 = pc') (he : ws[i0]? = some (a, .inl (G.2.2.1 0, N, .inl f))) (hi : vp_in i N) (hs : ws.set i0 (a, .inl (G.2.2.1 0, N, .inl (upd f i.toNatClampNeg x))) = ws') (kk : RN l G M mc ms ws0 Q pc' lv (st) ws' k n) : RN l G M mc ms ws0 Q pc lv (.int x :: .int i :: .ref a :: st) ws k n := by
  subst hp; subst hs
  intro p e s m args below meth c H locs ls X hin hP hD hS hl
  exact va_iast X.1 X.2.1 X.2.2.2.2.2.2.2.1 hP hD hS i0 0 he rfl hi hd (fun H1 locs1 hP1 hD1 hS1 => kk p e s m args below meth c H1 locs1 ls X hin hP1 hD1 hS1 hl)
theorem vp_in_lit {i : Int32} {n : Nat} (h : ¬ (i < 0 ∨ n ≤ i.toNatClampNeg)) : vp_in i n := h
/-- the rest of a world, and what came back of its end -/
theorem join_end {A0 : Nat → Prop} {D : va_G} {cl : List vw_C} {wr wc w1 : va_W} {H H1 : Heap} (hP : va_P D cl (wr ++ wc) H) (hD : va_D A0 (wr ++ wc))
    (hk : ∀ q : Nat, q < H.size → ¬ va_A wc H.size q → H1[q]? = H[q]?) (hF : ∀ q, va_A wc H.size q → A0 q) (hP1 : va_P D cl w1 H1) (hD1 : va_D (va_A wc H.size) w1) : va_P D cl (wr ++ w1) H1 ∧ va_D A0 (wr ++ w1) := by
  have hl : ∀ (k : Nat) (q : Nat × va_E), wr[k]? = some q → (wr ++ wc)[k]? = some q := fun k q h => by
    rw [List.getElem?_append_left (List.getElem?_eq_some_iff.mp h).1]; exact h
  have hr : ∀ (k : Nat) (q : Nat × va_E), wc[k]? = some q → (wr ++ wc)[wr.length + k]? = some q := fun k q h => by
    rw [List.getElem?_append_right (by omega), Nat.add_sub_cancel_left]; exact h
  have apart : ∀ (k : Nat) (q : Nat × va_E), wr[k]? = some q → q.1 < H.size ∧ ¬ va_A wc H.size q.1 := by
    intro k q hq
    have hlt := (hP k q (hl k q hq)).lt
    refine ⟨hlt, fun h => ?_⟩
    rcases h with ⟨k2, e, h⟩ | h
    · have := hD.1 k (wr.length + k2) q (q.1, e) (hl k q hq) (hr k2 _ h) rfl
      have h3 := (List.getElem?_eq_some_iff.mp hq).1
      omega
    · omega
  refine ⟨va_P.app (fun k q hq => ?_) hP1, va_D.app ⟨fun i j x y hi hj hxy => hD.1 i j x y (hl i x hi) (hl j y hj) hxy, fun k q hq => hD.2 k q (hl k q hq)⟩ (hD1.weaken (fun k q _ h => hF q.1 h)) (fun i j x y hx hy hxy => ?_)⟩
  · obtain ⟨g1, g2⟩ := apart k q hq
    exact (hP k q (hl k q hq)).kept (hk q.1 g1 g2)
  · exact (apart i x hx).2 (by rw [hxy]; exact hD1.2 j y hy)
theorem end_P {D : va_G} {cl : List vw_C} {wr wc : va_W} {H : Heap} (hP : va_P D cl (wr ++ wc) H) : va_P D cl wc H := fun k q h => hP (wr.length + k) q (by rw [List.getElem?_append_right (by omega), Nat.add_sub_cancel_left]; exact h)
theorem end_D {A : Nat → Prop} {wr wc : va_W} (hD : va_D A (wr ++ wc)) : va_D A wc := ⟨fun i j x y hi hj hxy => by
  have := hD.1 (wr.length + i) (wr.length + j) x y (by rw [List.getElem?_append_right (by omega), Nat.add_sub_cancel_left]; exact hi) (by rw [List.getElem?_append_right (by omega), Nat.add_sub_cancel_left]; exact hj) hxy
  omega, fun k q h => hD.2 (wr.length + k) q (by rw [List.getElem?_append_right (by omega), Nat.add_sub_cancel_left]; exact h)⟩
theorem end_A {ws0 wr wc : va_W} {s H : Heap} {locs : List Loc} (hD : va_D (va_A ws0 s.size) (wr ++ wc)) (hS : va_S (va_A ws0 s.size) s H locs) : ∀ q, va_A wc H.size q → va_A ws0 s.size q := by
  rintro q (⟨k, e, h⟩ | h)
  · exact (end_D hD).2 k (q, e) h
  · exact Or.inr (Nat.le_trans hS.1 h)
theorem PcN_blind {G : Nv} {av : List Value} {ws0 : va_W} {sz : Nat} : FrameBlind (PcN G av ws0 sz) := fun a U g mk q => by
  obtain ⟨q0, q1, q2, q3, q4, q5⟩ := q
  exact ⟨q0, q1, q2, va_K.moved (u := U) (U := U.calling g mk a) (Vm.Alike.refl U.vm) q3, q4, Amb.same (U := U) (V := U.calling g mk a) (H := U.heap) rfl q5⟩
theorem rn_callI {l : Launch} {G : Nv} {M : MD} {mc ms : Nat} {ws0 : va_W} {Q : va_W → Prop} {pc pc' : Nat} {lv : List (Nat × Value)} {st : List Value} {ws : va_W} {k n : Nat} {M' : MD} {av : List Value} {wr wc : va_W} {mc' ms' idx a na : Nat} {Q' : va_W → Prop} (hs : SpN l G M' (.ref a :: av) wc mc' ms' Q') (hd : decode M.2.1 pc = .ok (.invokespecial idx, 3)) (hp : pc + 3 = pc') (hws : ws = wr ++ wc) (hg : MGood M' na) (hi : Cond.instanceMethod M'.1 ∈ TBL) (hr : M'.2.2.2.1 = none) (hy : M'.1.name = "<init>") (hf : MFits M M') (hw : Cond.methodLink M.1.cls idx M'.1 ∈ TBL) (hn' : av.length = na) (hst : (st.map fun v => v.category).sum ≤ 8) (hk : k + mc' ≤ mc) (hn : n + ms' ≤ ms) (kk : ∀ w1, Q' w1 → RN l G M mc ms ws0 Q pc' lv st (wr ++ w1) (k + mc') (n + ms')) : RN l G M mc ms ws0 Q pc lv (av.reverse ++ .ref a :: st) ws k n := by
  subst hp; subst hws
  intro p e s m args below meth c H locs ls X hin hP hD hS hl
  have hcode := wsM_good M M' hg.1
  have hrw : wsM M' = Cond.code M'.1 M'.2.1 M'.2.2.1 none :: TBL := by unfold wsM; rw [MD.code, hr]
  have hA := X.2.2.2.2.2.2.2.2.1
  have hrun := va_runI (As := av) (rest := st) (n := na) (H := H) (locs := locs) (cells := k) (slots := n) (p := p) (e := e) (below := below) (meth := meth) (g := F0 m pc ls (av.reverse ++ .ref a :: st)) ⟨X.1, X.2.1, X.2.2.1, X.2.2.2.2.2.1, X.2.2.2.2.2.2.1⟩ (hs H.size) (cwI (R := rmN M mc ms) (Ts := wsM M) na X.2.2.2.2.2.2.1 hcode hrw rfl rfl (X.2.2.2.2.2.2.1 _ (List.mem_cons_of_mem _ (hg.2.1))) (X.2.2.2.2.2.2.1 _ (List.mem_cons_of_mem _ (hw))) (X.2.2.2.2.2.2.1 _ (List.mem_cons_of_mem _ (hi))) hy hg.2.2 hf) ⟨PcN_blind, fun U hU hW => ⟨rfl, by rw [hU], by rw [hU]; exact end_P hP, va_K.moved hW.alike X.2.2.2.2.2.2.2.1, (end_D hD).weaken (fun _ _ _ _ => trivial), by
    rw [hU]
    exact ((hA.kept hS.2.1).narrow (end_A hD hS)).warm hW⟩⟩ rfl hn' hl.1 rfl (lv_room hst) hd ⟨hk, hn⟩
  intro TT hT XX
  obtain ⟨v, st₀, t, T', L, h0, X', hL, e1, e2, ⟨⟨w1, hv, hq, hP1, hK1, hD1⟩, hz, hkp⟩, stp⟩ := hrun TT hT XX
  cases hv
  rw [h0] at hz hkp
  have hF := end_A hD hS
  rw [← e1] at hP1
  obtain ⟨hP2, hD2⟩ := join_end hP hD (H1 := T'.heap) (fun q h1 h2 => by rw [e1]; exact hkp q h1 h2) hF hP1 hD1
  obtain ⟨t2, a1, b1⟩ := kk w1 hq p e s m args below meth c T'.heap (locs ++ L) ls X hin hP2 hD2
    ⟨Nat.le_trans hS.1 (by rw [e1]; exact hz), fun q h1 h2 => by rw [e1, hkp q (Nat.lt_of_lt_of_le h1 hS.1) (fun z => h2 (hF _ z))]; exact hS.2.1 q h1 h2, fun q hq => by
      rcases List.mem_append.mp hq with h | h
      · exact hS.2.2 q h
      · exact hF _ (hL q h)⟩ hl T' rfl X'
  exact ⟨t2, stp t2 a1, b1⟩
theorem Amb.ad {G : Nv} {q : Nat → Nat} {A : Nat → Prop} {U : State} {H : Heap} (hq : ∀ k, 90 ≤ k → q k = G.2.1 k) (h : Amb G A U H) : Amb (G.1, q, G.2.2) A U H := by
  obtain ⟨h1, h2, h3, h4, h5⟩ := h
  refine ⟨h1, fun z hz => h2 z ?_, fun r hr => ?_, ?_, fun r hr => ?_⟩
  · simp only [roStat] at hz ⊢
    rw [hq 90 (by omega), hq 91 (by omega)] at hz
    exact hz
  · have e : q r.1 = G.2.1 r.1 := hq _ (by
      rcases List.mem_cons.mp hr with rfl | hr
      · decide
      · rcases List.mem_cons.mp hr with rfl | hr
        · decide
        · cases hr)
    show va_T _ (q r.1) _ _ _ _ _
    rw [e]
    exact h3 r hr
  · have e1 : (fun i => q (100 + i)) = fun i => G.2.1 (100 + i) := funext fun i => hq _ (by omega)
    have e2 : (fun i => q (120 + i)) = fun i => G.2.1 (120 + i) := funext fun i => hq _ (by omega)
    show vk_S 14 _ _ (fun i => q (100 + i)) (fun i => q (120 + i)) _ _ _
    rw [e1, e2]
    exact h4
  · show vk_R _ _ _ (q (100 + r.2.2)) _
    rw [hq _ (by omega)]
    exact h5 r hr
/-- a method told by the other layer, called on a world that is all of its shape -/
theorem rn_callSp {l : Launch} {G : Nv} {M : MD} {mc ms : Nat} {ws0 : va_W} {Q : va_W → Prop} {pc pc' : Nat} {lv : List (Nat × Value)} {st : List Value} {ws : va_W} {k n : Nat} {M' : MD} {q : Nat → Nat} {Sh : Shp} {μ μ1 : Mem} {idx : Nat} (hs : Sp l (G.1, q, G.2.2) Sh M' [vR 0] μ (fun r μ' => (r, μ') = (none, μ1))) (hm : okMem Sh μ) (hq : ∀ k, 90 ≤ k → q k = G.2.1 k) (hws : ws = wsOf (G.1, q, G.2.2) Sh μ) (hws0 : ∀ z, va_A ws0 z = va_A ws0 z) (hd : decode M.2.1 pc = .ok (.invokevirtual idx, 3)) (hp : pc + 3 = pc') (hg : MGood M' 0) (hi : MInst M') (hb : Recv Sh 0 M'.1.cls) (hb0 : 0 < Sh.length) (hf : MFits M M') (hw : Cond.methodLink M.1.cls idx M'.1 ∈ TBL) (hst : (st.map fun v => v.category).sum ≤ 8) (hk : k ≤ mc) (hn : n ≤ ms) (kk : RN l G M mc ms ws0 Q pc' lv st (wsOf (G.1, q, G.2.2) Sh μ1) k n) : RN l G M mc ms ws0 Q pc lv (.ref (q 0) :: st) ws k n := by
  subst hp; subst hws
  intro p e s m args below meth c H locs ls X hin hP hD hS hl
  have hA := X.2.2.2.2.2.2.2.2.1
  have hKK : va_K G.1 vwCl (tysOf G) s := X.2.2.2.2.2.2.2.1
  have hF : ∀ x, WA (G.1, q, G.2.2) Sh H.size x → va_A ws0 s.heap.size x := fun x hx => by
    rcases (wa_eq (μ := μ) x).mpr hx with ⟨j, e, h⟩ | h
    · exact hD.2 j (x, e) h
    · exact Or.inr (Nat.le_trans hS.1 h)
  have hrecv : ∃ cellB : Cell, H[q 0]? = some cellB ∧ cellB.vm.isStatics = false ∧ s.vm.findClass M'.1.cls = some cellB.cls := by
    rcases hb with ⟨ci, slots, T, N, h1, h2⟩ | ⟨h, j, hj, h0⟩
    · exact va_recv hKK hP h2 (wsOf_obj h1)
    · omega
  have hrun := va_runV (As := []) (rest := st) (n := 0) (H := H) (locs := locs) (cells := k) (slots := n) (p := p) (e := e) (below := below) (meth := meth) (R := rmN M mc ms) (g := F0 m pc ls (.ref (q 0) :: st)) ⟨X.1, X.2.1, X.2.2.1, X.2.2.2.2.2.1, X.2.2.2.2.2.2.1⟩ (hs (fun v hv => by simp at hv; rw [hv]; trivial) hm H.size) ⟨callB_of (R := rmN M mc ms) (Ts := wsM M) 0 X.2.2.2.2.2.2.1 (wsM_good M M' hg.1) rfl rfl rfl (X.2.2.2.2.2.2.1 _ (List.mem_cons_of_mem _ (hg.2.1))) (X.2.2.2.2.2.2.1 _ (List.mem_cons_of_mem _ (hw))) hg.2.2 hf, (X.2.2.2.2.2.2.1 _ (List.mem_cons_of_mem _ (hi.1))), (X.2.2.2.2.2.2.1 _ (List.mem_cons_of_mem _ (hi.2)))⟩ ⟨PcOf_blind, hrecv, fun U hU hW => ⟨rfl, by rw [hU], by rw [hU]; exact hP, va_K.moved hW.alike hKK, hD.weaken (fun _ _ _ _ => trivial), by
    rw [hU]
    exact ((((hA.kept hS.2.1).narrow hF).ad hq).warm hW)⟩⟩ rfl rfl hl.1 rfl (lv_room hst) hd ⟨hk, hn⟩
  intro TT hT XX
  obtain ⟨v, st₀, t, T', L, h0, X', hL, e1, e2, ⟨⟨r, μ', hv, hq', hok, hm', hP1, hK1, hD1⟩, hz, hkp⟩, stp⟩ := hrun TT hT XX
  cases hv
  cases hq'
  rw [h0] at hz hkp
  obtain ⟨t2, a1, b1⟩ := kk p e s m args below meth c T'.heap (locs ++ L) ls X hin (by rw [e1]; exact hP1) (hD1.weaken (fun _ x _ h => hF _ h))
    ⟨Nat.le_trans hS.1 (by rw [e1]; exact hz), fun x h1 h2 => by rw [e1, hkp x (Nat.lt_of_lt_of_le h1 hS.1) (fun z => h2 (hF _ z))]; exact hS.2.1 x h1 h2, fun x hx => by
      rcases List.mem_append.mp hx with h | h
      · exact hS.2.2 x h
      · exact hF _ (hL x h)⟩ hl T' rfl X'
  exact ⟨t2, stp t2 a1, b1⟩
theorem spn_of {l : Launch} {G : Nv} {M : MD} {av : List Value} {ws0 : va_W} {mc ms : Nat} {Q : va_W → Prop} (hy : plainName M.1.cls = true) (hr : M.2.2.2.1 = none) (hn : M.1.name = "<init>") (hlen : (lg_sl av).length ≤ M.2.2.1) (h : RN l G M mc ms ws0 Q 0 (lv_args 0 av) [] ws0 0 0) : SpN l G M av ws0 mc ms Q := by
  intro sz
  refine Met.ofW (cc := M.2.1) (maxL := M.2.2.1) (ret := M.2.2.2.1) (ws' := TBL) hy rfl ?_
  intro p e s m args below meth c s₁ B hml hv
  obtain ⟨rfl, hsz, hP, hK, hD0, hA⟩ := hv
  have hts := atoms_spec (ws := wsM M) B.pre
  have hown : s.vm.findClass M.1.cls = some m.cls := findClass_of_methodNamed B.named
  have hin : meth.name = "<init>" := (name_of_methodNamed B.named B.method).1.trans hn
  subst hsz
  have hD := hD0.self (sz := s.heap.size)
  have hl := lv_entry av (n := M.2.2.1) hlen
  rw [lg_entry_eq]
  exact h p e s m _ below meth c s.heap [] _ ⟨B.exec, B.bytes, hml, B.returns, B.notSynchronized, hown, hts, hK, hA, fun q hq => Or.inr hq⟩ hin hP hD va_S.rf hl
