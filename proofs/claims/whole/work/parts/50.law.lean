/-! THE CLAIM OUT OF ONE WALK OF THE LAW'S BODY. Your part is whole_start (and what it stands on); all else here is the same for every law, but numbers. -/
def R_law : String := "WheelsWidthsLaw"
def lw_P (b : Addr) (xs : List Int32) (args : Array Value) (s : State) : Prop := args = #[.ref b] ∧ s.IntsAt b xs ∧ xs.length ≤ 2560 ∧ (Jvm.Cond.and given_1 narrow_1).before args s = true
def lw_Q (_ : Array Value) (s : State) (o : Outcome) (t : State) : Prop := o = .returned (some (.int 1)) ∧ Framed s o t [] 88 3747
def lw_Z (below : List Frame) (a : Array Value) (s : State) : State → Prop := fun t => ∃ o, t.status = .running ∧ Ended t below o ∧ lw_Q a s o t
/-- the law's own end, with 1 on the stack, nothing written that was there before, its room as the claim has it -/
theorem lw_ret {p : Program} {l : Launch} {e : Env} {s : State} {m : MethodId} {below : List Frame} {meth : Method} {c : Code} {b : Nat} (hx : p.tables.exec = Jvm.exec) (hb : c.code = code) (hr : meth.sig.returnType = ret) (hlocks : meth.locks = false) {pc : Nat} {H : Heap} {ls : Array Slot} (hdg : decode code pc = .ok (.ireturn, 1)) : W p l e room_1 s m #[Value.ref b] below meth c H [] 88 3747 (lw_Z below #[Value.ref b] s) (F0 m pc ls [.int 1]) := by
  intro T hT X
  obtain ⟨fs, hret, hrun, hended, hW, hframe⟩ := X.leave (v := some (.int 1)) (hlocks := hlocks) (fun h => by rw [hr] at h; cases h)
  have hmeth' : T.vm.method? m = some meth := X.method'
  refine ⟨T.setFrames fs, ?_, .returned (some (.int 1)), hrun, hended, rfl, ⟨_, rfl⟩, hW, hframe⟩
  jvm_step X.here [X.here.top, hx, hb, hdg, hmeth', hr, ret, narrow_b1]
  (try refine ⟨rfl, ?_⟩); (try refine ⟨rfl, ?_⟩)
  first | (intro acts; rw [hret _ acts rfl rfl rfl]) | rw [hret _ _ rfl rfl rfl]
  exact Steps.refl _
/-- what holds at the law's entry: the machine, the code, the tables' words (any of lw_tbl by 'hts w (by decide +kernel)'), the script of L ints xs at the cell b, what the Statement gives of the start (any of its parts by flat_of_before) -/
def lw_At (p : Program) (s : State) (m : MethodId) (meth : Method) (c : Code) (b L : Nat) (xs : Nat → Int32) : Prop :=
  p.tables.exec = Jvm.exec ∧ c.code = code ∧ meth.sig.returnType = ret ∧ c.maxLocals = 4 ∧ s.vm.findClass R_law = some m.cls ∧ (∀ w ∈ lw_tbl, w.before #[Value.ref b] s = true) ∧ va_X b L xs s s.heap ∧ b < s.heap.size ∧ meth.locks = false ∧ (Jvm.Cond.and given_1 narrow_1).before #[Value.ref b] s = true
/-- what stays in the law's run -/
def LX (l : Launch) (G : Nv) (b L : Nat) (xs : Nat → Int32) (p : Program) (s : State) (m : MethodId) (meth : Method) (c : Code) : Prop := lw_At p s m meth c b L xs ∧ va_K G.1 vwCl (tysOf G) s ∧ Amb G (fun q => s.heap.size ≤ q) s s.heap ∧ G.2.1 150 = b
def RLw (l : Launch) (G : Nv) (b L : Nat) (xs : Nat → Int32) (pc : Nat) (lv : List (Option MV)) (st : List MV) (μ : Mem) : Prop :=
  ∀ (p : Program) (e : Env) (s : State) (m : MethodId) (below : List Frame) (meth : Method) (c : Code) (H : Heap) (locs : List Loc) (ls : Array Slot),
    LX l G b L xs p s m meth c → va_P G.1 vwCl (wsOf G S88 μ) H → va_D (fun q => s.heap.size ≤ q) (wsOf G S88 μ) → va_S (fun q => s.heap.size ≤ q) s.heap H locs → lv_has ls 4 (lvl G lv) → lv.length = 4 → okMem S88 μ → okl lv → oks st →
    W p l e room_1 s m #[Value.ref b] below meth c H locs 88 3747 (lw_Z below #[Value.ref b] s) (F0 m pc ls (st.map (rv G)))
theorem rl_go {l : Launch} {G : Nv} {b L : Nat} {xs : Nat → Int32} {pc pc' : Nat} {lv : List (Option MV)} {st : List MV} {μ : Mem} {st' : List MV} (hk : oks st → okl lv → okMem S88 μ → oks st')
    (h : ∀ (p : Program) (e : Env) (s : State) (m : MethodId) (below : List Frame) (meth : Method) (c : Code) (H : Heap) (locs : List Loc) (ls : Array Slot), LX l G b L xs p s m meth c → va_S (fun q => s.heap.size ≤ q) s.heap H locs → lv_has ls 4 (lvl G lv) → okl lv → oks st → W p l e room_1 s m #[Value.ref b] below meth c H locs 88 3747 (lw_Z below #[Value.ref b] s) (F0 m pc' ls (st'.map (rv G))) → W p l e room_1 s m #[Value.ref b] below meth c H locs 88 3747 (lw_Z below #[Value.ref b] s) (F0 m pc ls (st.map (rv G))))
    (k : RLw l G b L xs pc' lv (st') μ) : RLw l G b L xs pc lv (st) μ := by
  intro p e s m below meth c H locs ls X hP hD hS hl hn hm hol hos
  exact h p e s m below meth c H locs ls X hS hl hol hos (k p e s m below meth c H locs ls X hP hD hS hl hn hm hol (hk hos hol hm))
theorem rl_iconst {l : Launch} {G : Nv} {b L : Nat} {xs : Nat → Int32} {pc pc' : Nat} {lv : List (Option MV)} {st : List MV} {μ : Mem} {n : Int} (hd : decode code pc = .ok (.iconst n, 1)) (hp : pc + 1 = pc') (hC : C32 n) (k : RLw l G b L xs pc' lv (vI n :: st) μ) : RLw l G b L xs pc lv (st) μ := by
  subst hp
  refine rl_go (st' := vI n :: st) (fun hos hol hm => ?_) ?_ k
  · exact List.forall_mem_cons.mpr ⟨hC, fun v hv => hos v (hv)⟩
  · intro p e s m below meth c H locs ls X hS hl hol hos kk
    show W p l e room_1 s m #[Value.ref b] below meth c H locs 88 3747 (lw_Z below #[Value.ref b] s) (F0 m pc ls (st.map (rv G)))
    refine lv_iconst X.1.1 X.1.2.1 hd rfl ?_
    exact kk
theorem rl_bipush {l : Launch} {G : Nv} {b L : Nat} {xs : Nat → Int32} {pc pc' : Nat} {lv : List (Option MV)} {st : List MV} {μ : Mem} {n : Int} (hd : decode code pc = .ok (.bipush n, 2)) (hp : pc + 2 = pc') (hC : C32 n) (hv : (Int8.ofInt n).toInt32 = Int32.ofInt n) (k : RLw l G b L xs pc' lv (vI n :: st) μ) : RLw l G b L xs pc lv (st) μ := by
  subst hp
  refine rl_go (st' := vI n :: st) (fun hos hol hm => ?_) ?_ k
  · exact List.forall_mem_cons.mpr ⟨hC, fun v hv => hos v (hv)⟩
  · intro p e s m below meth c H locs ls X hS hl hol hos kk
    show W p l e room_1 s m #[Value.ref b] below meth c H locs 88 3747 (lw_Z below #[Value.ref b] s) (F0 m pc ls (st.map (rv G)))
    refine lv_bipush X.1.1 X.1.2.1 hd hv ?_
    exact kk
theorem rl_ldc2 {l : Launch} {G : Nv} {b L : Nat} {xs : Nat → Int32} {pc pc' : Nat} {lv : List (Option MV)} {st : List MV} {μ : Mem} {i : Nat} {x : Int} (hd : decode code pc = .ok (.ldc2_w i, 3)) (hp : pc + 3 = pc') (hC : C64 x) (hw : Cond.constantLong R_law i (Int64.ofInt x) ∈ TBL) (k : RLw l G b L xs pc' lv (vL x :: st) μ) : RLw l G b L xs pc lv (st) μ := by
  subst hp
  refine rl_go (st' := vL x :: st) (fun hos hol hm => ?_) ?_ k
  · exact List.forall_mem_cons.mpr ⟨hC, fun v hv => hos v (hv)⟩
  · intro p e s m below meth c H locs ls X hS hl hol hos kk
    show W p l e room_1 s m #[Value.ref b] below meth c H locs 88 3747 (lw_Z below #[Value.ref b] s) (F0 m pc ls (st.map (rv G)))
    refine lv_ldc2 X.1.1 X.1.2.1 X.1.2.2.2.2.1 (X.1.2.2.2.2.2.1 _ (List.mem_filter.mp hw).1) hd ?_
    exact kk
theorem rl_iload_n {l : Launch} {G : Nv} {b L : Nat} {xs : Nat → Int32} {pc pc' : Nat} {lv : List (Option MV)} {st : List MV} {μ : Mem} {j : Fin 4} {i : Nat} {x : Int} (hd : decode code pc = .ok (.iload_n j, 1)) (hp : pc + 1 = pc') (hj : (j : Nat) = i) (hg : lv[i]? = some (some (vI x))) (k : RLw l G b L xs pc' lv (vI x :: st) μ) : RLw l G b L xs pc lv (st) μ := by
  subst hp
  refine rl_go (st' := vI x :: st) (fun hos hol hm => ?_) ?_ k
  · exact List.forall_mem_cons.mpr ⟨hol _ _ hg, fun v hv => hos v (hv)⟩
  · intro p e s m below meth c H locs ls X hS hl hol hos kk
    show W p l e room_1 s m #[Value.ref b] below meth c H locs 88 3747 (lw_Z below #[Value.ref b] s) (F0 m pc ls (st.map (rv G)))
    refine lv_iload_n X.1.1 X.1.2.1 hd hj (hl.2.2 _ (lvl_mem hg)) ?_
    exact kk
theorem rl_aload_n {l : Launch} {G : Nv} {b L : Nat} {xs : Nat → Int32} {pc pc' : Nat} {lv : List (Option MV)} {st : List MV} {μ : Mem} {j : Fin 4} {i : Nat} {x : Nat} (hd : decode code pc = .ok (.aload_n j, 1)) (hp : pc + 1 = pc') (hj : (j : Nat) = i) (hg : lv[i]? = some (some (vR x))) (k : RLw l G b L xs pc' lv (vR x :: st) μ) : RLw l G b L xs pc lv (st) μ := by
  subst hp
  refine rl_go (st' := vR x :: st) (fun hos hol hm => ?_) ?_ k
  · exact List.forall_mem_cons.mpr ⟨hol _ _ hg, fun v hv => hos v (hv)⟩
  · intro p e s m below meth c H locs ls X hS hl hol hos kk
    show W p l e room_1 s m #[Value.ref b] below meth c H locs 88 3747 (lw_Z below #[Value.ref b] s) (F0 m pc ls (st.map (rv G)))
    refine lv_aload_n X.1.1 X.1.2.1 hd hj (hl.2.2 _ (lvl_mem hg)) ?_
    exact kk
theorem rl_iadd {l : Launch} {G : Nv} {b L : Nat} {xs : Nat → Int32} {pc pc' : Nat} {lv : List (Option MV)} {st : List MV} {μ : Mem} {x y : Int} (hd : decode code pc = .ok (.iadd, 1)) (hp : pc + 1 = pc') (k : RLw l G b L xs pc' lv (vI (wI (x + y)) :: st) μ) : RLw l G b L xs pc lv (vI y :: vI x :: st) μ := by
  subst hp
  refine rl_go (st' := vI (wI (x + y)) :: st) (fun hos hol hm => ?_) ?_ k
  · exact List.forall_mem_cons.mpr ⟨wI_C _, fun v hv => hos v (List.mem_cons_of_mem _ (List.mem_cons_of_mem _ (hv)))⟩
  · intro p e s m below meth c H locs ls X hS hl hol hos kk
    show W p l e room_1 s m #[Value.ref b] below meth c H locs 88 3747 (lw_Z below #[Value.ref b] s) (F0 m pc ls (.int (Int32.ofInt (y)) :: .int (Int32.ofInt (x)) :: st.map (rv G)))
    refine lv_iadd X.1.1 X.1.2.1 hd ?_
    have kk : W p l e room_1 s m #[Value.ref b] below meth c H locs 88 3747 (lw_Z below #[Value.ref b] s) (F0 m (pc + 1) ls (.int (Int32.ofInt (wI (x + y))) :: st.map (rv G))) := kk
    rw [ofInt_wI, Int32.ofInt_add] at kk
    exact kk
theorem rl_isub {l : Launch} {G : Nv} {b L : Nat} {xs : Nat → Int32} {pc pc' : Nat} {lv : List (Option MV)} {st : List MV} {μ : Mem} {x y : Int} (hd : decode code pc = .ok (.isub, 1)) (hp : pc + 1 = pc') (k : RLw l G b L xs pc' lv (vI (wI (x - y)) :: st) μ) : RLw l G b L xs pc lv (vI y :: vI x :: st) μ := by
  subst hp
  refine rl_go (st' := vI (wI (x - y)) :: st) (fun hos hol hm => ?_) ?_ k
  · exact List.forall_mem_cons.mpr ⟨wI_C _, fun v hv => hos v (List.mem_cons_of_mem _ (List.mem_cons_of_mem _ (hv)))⟩
  · intro p e s m below meth c H locs ls X hS hl hol hos kk
    show W p l e room_1 s m #[Value.ref b] below meth c H locs 88 3747 (lw_Z below #[Value.ref b] s) (F0 m pc ls (.int (Int32.ofInt (y)) :: .int (Int32.ofInt (x)) :: st.map (rv G)))
    refine lv_isub X.1.1 X.1.2.1 hd ?_
    have kk : W p l e room_1 s m #[Value.ref b] below meth c H locs 88 3747 (lw_Z below #[Value.ref b] s) (F0 m (pc + 1) ls (.int (Int32.ofInt (wI (x - y))) :: st.map (rv G))) := kk
    rw [ofInt_wI, Int32.ofInt_sub] at kk
    exact kk
theorem rl_iand {l : Launch} {G : Nv} {b L : Nat} {xs : Nat → Int32} {pc pc' : Nat} {lv : List (Option MV)} {st : List MV} {μ : Mem} {x y : Int} (hd : decode code pc = .ok (.iand, 1)) (hp : pc + 1 = pc') (k : RLw l G b L xs pc' lv (vI (iAnd x y) :: st) μ) : RLw l G b L xs pc lv (vI y :: vI x :: st) μ := by
  subst hp
  refine rl_go (st' := vI (iAnd x y) :: st) (fun hos hol hm => ?_) ?_ k
  · exact List.forall_mem_cons.mpr ⟨i32_C _, fun v hv => hos v (List.mem_cons_of_mem _ (List.mem_cons_of_mem _ (hv)))⟩
  · intro p e s m below meth c H locs ls X hS hl hol hos kk
    show W p l e room_1 s m #[Value.ref b] below meth c H locs 88 3747 (lw_Z below #[Value.ref b] s) (F0 m pc ls (.int (Int32.ofInt (y)) :: .int (Int32.ofInt (x)) :: st.map (rv G)))
    refine lv_iand X.1.1 X.1.2.1 hd ?_
    have kk : W p l e room_1 s m #[Value.ref b] below meth c H locs 88 3747 (lw_Z below #[Value.ref b] s) (F0 m (pc + 1) ls (.int (Int32.ofInt (iAnd x y)) :: st.map (rv G))) := kk
    unfold iAnd at kk
    rw [Int32.ofInt_toInt] at kk
    exact kk
theorem rl_land {l : Launch} {G : Nv} {b L : Nat} {xs : Nat → Int32} {pc pc' : Nat} {lv : List (Option MV)} {st : List MV} {μ : Mem} {x y : Int} (hd : decode code pc = .ok (.land, 1)) (hp : pc + 1 = pc') (k : RLw l G b L xs pc' lv (vL (lAnd x y) :: st) μ) : RLw l G b L xs pc lv (vL y :: vL x :: st) μ := by
  subst hp
  refine rl_go (st' := vL (lAnd x y) :: st) (fun hos hol hm => ?_) ?_ k
  · exact List.forall_mem_cons.mpr ⟨i64_C _, fun v hv => hos v (List.mem_cons_of_mem _ (List.mem_cons_of_mem _ (hv)))⟩
  · intro p e s m below meth c H locs ls X hS hl hol hos kk
    show W p l e room_1 s m #[Value.ref b] below meth c H locs 88 3747 (lw_Z below #[Value.ref b] s) (F0 m pc ls (.long (Int64.ofInt (y)) :: .long (Int64.ofInt (x)) :: st.map (rv G)))
    refine lv_land X.1.1 X.1.2.1 hd ?_
    have kk : W p l e room_1 s m #[Value.ref b] below meth c H locs 88 3747 (lw_Z below #[Value.ref b] s) (F0 m (pc + 1) ls (.long (Int64.ofInt (lAnd x y)) :: st.map (rv G))) := kk
    unfold lAnd at kk
    rw [Int64.ofInt_toInt] at kk
    exact kk
theorem rl_lor {l : Launch} {G : Nv} {b L : Nat} {xs : Nat → Int32} {pc pc' : Nat} {lv : List (Option MV)} {st : List MV} {μ : Mem} {x y : Int} (hd : decode code pc = .ok (.lor, 1)) (hp : pc + 1 = pc') (k : RLw l G b L xs pc' lv (vL (lOr x y) :: st) μ) : RLw l G b L xs pc lv (vL y :: vL x :: st) μ := by
  subst hp
  refine rl_go (st' := vL (lOr x y) :: st) (fun hos hol hm => ?_) ?_ k
  · exact List.forall_mem_cons.mpr ⟨i64_C _, fun v hv => hos v (List.mem_cons_of_mem _ (List.mem_cons_of_mem _ (hv)))⟩
  · intro p e s m below meth c H locs ls X hS hl hol hos kk
    show W p l e room_1 s m #[Value.ref b] below meth c H locs 88 3747 (lw_Z below #[Value.ref b] s) (F0 m pc ls (.long (Int64.ofInt (y)) :: .long (Int64.ofInt (x)) :: st.map (rv G)))
    refine lv_lor X.1.1 X.1.2.1 hd ?_
    have kk : W p l e room_1 s m #[Value.ref b] below meth c H locs 88 3747 (lw_Z below #[Value.ref b] s) (F0 m (pc + 1) ls (.long (Int64.ofInt (lOr x y)) :: st.map (rv G))) := kk
    unfold lOr at kk
    rw [Int64.ofInt_toInt] at kk
    exact kk
theorem rl_lshl {l : Launch} {G : Nv} {b L : Nat} {xs : Nat → Int32} {pc pc' : Nat} {lv : List (Option MV)} {st : List MV} {μ : Mem} {x y : Int} (hd : decode code pc = .ok (.lshl, 1)) (hp : pc + 1 = pc') (k : RLw l G b L xs pc' lv (vL (lShl x y) :: st) μ) : RLw l G b L xs pc lv (vI y :: vL x :: st) μ := by
  subst hp
  refine rl_go (st' := vL (lShl x y) :: st) (fun hos hol hm => ?_) ?_ k
  · exact List.forall_mem_cons.mpr ⟨i64_C _, fun v hv => hos v (List.mem_cons_of_mem _ (List.mem_cons_of_mem _ (hv)))⟩
  · intro p e s m below meth c H locs ls X hS hl hol hos kk
    show W p l e room_1 s m #[Value.ref b] below meth c H locs 88 3747 (lw_Z below #[Value.ref b] s) (F0 m pc ls (.int (Int32.ofInt (y)) :: .long (Int64.ofInt (x)) :: st.map (rv G)))
    refine lv_lshl X.1.1 X.1.2.1 hd (show _ = Int64.ofInt (lShl x y) by unfold lShl; rw [Int64.ofInt_toInt]) ?_
    exact kk
theorem rl_i2l {l : Launch} {G : Nv} {b L : Nat} {xs : Nat → Int32} {pc pc' : Nat} {lv : List (Option MV)} {st : List MV} {μ : Mem} {x : Int} (hd : decode code pc = .ok (.i2l, 1)) (hp : pc + 1 = pc') (k : RLw l G b L xs pc' lv (vL x :: st) μ) : RLw l G b L xs pc lv (vI x :: st) μ := by
  subst hp
  refine rl_go (st' := vL x :: st) (fun hos hol hm => ?_) ?_ k
  · exact List.forall_mem_cons.mpr ⟨by have hx : C32 x := hos _ List.mem_cons_self; unfold okv; omega, fun v hv => hos v (List.mem_cons_of_mem _ (hv))⟩
  · intro p e s m below meth c H locs ls X hS hl hol hos kk
    show W p l e room_1 s m #[Value.ref b] below meth c H locs 88 3747 (lw_Z below #[Value.ref b] s) (F0 m pc ls (.int (Int32.ofInt (x)) :: st.map (rv G)))
    refine lv_i2l X.1.1 X.1.2.1 hd (show _ = Int64.ofInt x by have hx : C32 x := hos _ List.mem_cons_self; rw [← Int64.toInt_inj, i64_toInt (by omega), Int32.toInt_toInt64, i32_toInt hx]) ?_
    exact kk
theorem rl_slen {l : Launch} {G : Nv} {b L : Nat} {xs : Nat → Int32} {pc pc' : Nat} {lv : List (Option MV)} {st : List MV} {μ : Mem} (hd : decode code pc = .ok (.arraylength, 1)) (hp : pc + 1 = pc') (hL : L ≤ 2560) (k : RLw l G b L xs pc' lv (vI (L : Int) :: st) μ) : RLw l G b L xs pc lv (vR 150 :: st) μ := by
  subst hp
  refine rl_go (st' := vI (L : Int) :: st) (fun hos hol hm => ?_) ?_ k
  · exact List.forall_mem_cons.mpr ⟨⟨by omega, by omega⟩, fun v hv => hos v (List.mem_cons_of_mem _ (hv))⟩
  · intro p e s m below meth c H locs ls X hS hl hol hos kk
    have hb := X.2.2.2
    show W p l e room_1 s m #[Value.ref b] below meth c H locs 88 3747 (lw_Z below #[Value.ref b] s) (F0 m pc ls (.ref (G.2.1 150) :: st.map (rv G)))
    rw [hb]
    refine va_slen X.1.1 X.1.2.1 X.1.2.2.2.2.2.2.1 X.1.2.2.2.2.2.2.2.1 (Nat.not_le.mpr X.1.2.2.2.2.2.2.2.1) hS hd ?_
    rw [← Int32.ofInt_eq_ofNat]
    exact kk
theorem rl_sld {l : Launch} {G : Nv} {b L : Nat} {xs : Nat → Int32} {pc pc' : Nat} {lv : List (Option MV)} {st : List MV} {μ : Mem} {i : Int} (hd : decode code pc = .ok (.iaload, 1)) (hp : pc + 1 = pc') (hL : L ≤ 2560) (h0 : 0 ≤ i) (h1 : i < L) (k : RLw l G b L xs pc' lv (vI (xs i.toNat).toInt :: st) μ) : RLw l G b L xs pc lv (vI i :: vR 150 :: st) μ := by
  subst hp
  refine rl_go (st' := vI (xs i.toNat).toInt :: st) (fun hos hol hm => ?_) ?_ k
  · exact List.forall_mem_cons.mpr ⟨i32_C _, fun v hv => hos v (List.mem_cons_of_mem _ (List.mem_cons_of_mem _ (hv)))⟩
  · intro p e s m below meth c H locs ls X hS hl hol hos kk
    have hb := X.2.2.2
    show W p l e room_1 s m #[Value.ref b] below meth c H locs 88 3747 (lw_Z below #[Value.ref b] s) (F0 m pc ls (.int (Int32.ofInt i) :: .ref (G.2.1 150) :: st.map (rv G)))
    rw [hb]
    refine va_sld X.1.1 X.1.2.1 X.1.2.2.2.2.2.2.1 X.1.2.2.2.2.2.2.2.1 (Nat.not_le.mpr X.1.2.2.2.2.2.2.2.1) hS (idx_in h0 h1 (by omega)) hd ?_
    rw [idx_nat h0 h1 (by omega)]
    have kk : W p l e room_1 s m #[Value.ref b] below meth c H locs 88 3747 (lw_Z below #[Value.ref b] s) (F0 m (pc + 1) ls (.int (Int32.ofInt (xs i.toNat).toInt) :: st.map (rv G))) := kk
    rw [Int32.ofInt_toInt] at kk
    exact kk
theorem rl_goto {l : Launch} {G : Nv} {b L : Nat} {xs : Nat → Int32} {pc pc' : Nat} {lv : List (Option MV)} {st : List MV} {μ : Mem} {off : Int} (hd : decode code pc = .ok (.goto off, 3)) (ht : (pc : Int) + off = (pc' : Int)) (k : RLw l G b L xs pc' lv (st) μ) : RLw l G b L xs pc lv (st) μ := by
  intro p e s m below meth c H locs ls X hP hD hS hl hn hm hol hos
  exact lv_goto X.1.1 X.1.2.1 hd ht (k p e s m below meth c H locs ls X hP hD hS hl hn hm hol hos)
theorem rl_icmp_gt {l : Launch} {G : Nv} {b L : Nat} {xs : Nat → Int32} {pc pc' : Nat} {lv : List (Option MV)} {st : List MV} {μ : Mem} {x y off : Int} {tgt : Nat} (hd : decode code pc = .ok (.if_icmp .gt off, 3)) (hp : pc + 3 = pc') (ht : (pc : Int) + off = (tgt : Int)) (kt : y < x → RLw l G b L xs tgt lv (st) μ) (kf : ¬ (y < x) → RLw l G b L xs pc' lv (st) μ) : RLw l G b L xs pc lv (vI y :: vI x :: st) μ := by
  subst hp
  intro p e s m below meth c H locs ls X hP hD hS hl hn hm hol hos
  have hy : C32 y := hos _ List.mem_cons_self
  have hx : C32 x := hos _ (List.mem_cons_of_mem _ List.mem_cons_self)
  show W p l e room_1 s m #[Value.ref b] below meth c H locs 88 3747 (lw_Z below #[Value.ref b] s) (F0 m pc ls (.int (Int32.ofInt y) :: .int (Int32.ofInt x) :: st.map (rv G)))
  exact lv_icmp_gt X.1.1 X.1.2.1 hd ht (fun h => kt ((i32_lt hy hx).mp h) p e s m below meth c H locs ls X hP hD hS hl hn hm hol (fun v hv => hos v (List.mem_cons_of_mem _ (List.mem_cons_of_mem _ (hv))))) (fun h => kf (fun z => h ((i32_lt hy hx).mpr z)) p e s m below meth c H locs ls X hP hD hS hl hn hm hol (fun v hv => hos v (List.mem_cons_of_mem _ (List.mem_cons_of_mem _ (hv)))))
theorem rl_icmp_eq {l : Launch} {G : Nv} {b L : Nat} {xs : Nat → Int32} {pc : Nat} {lv : List (Option MV)} {st : List MV} {μ : Mem} {x y off : Int} {tgt : Nat} (hd : decode code pc = .ok (.if_icmp .eq off, 3)) (ht : (pc : Int) + off = (tgt : Int)) (hxy : x = y) (kt : RLw l G b L xs tgt lv (st) μ) : RLw l G b L xs pc lv (vI y :: vI x :: st) μ := by
  intro p e s m below meth c H locs ls X hP hD hS hl hn hm hol hos
  show W p l e room_1 s m #[Value.ref b] below meth c H locs 88 3747 (lw_Z below #[Value.ref b] s) (F0 m pc ls (.int (Int32.ofInt y) :: .int (Int32.ofInt x) :: st.map (rv G)))
  exact lv_icmp_eq X.1.1 X.1.2.1 hd ht (fun h => kt p e s m below meth c H locs ls X hP hD hS hl hn hm hol (fun v hv => hos v (List.mem_cons_of_mem _ (List.mem_cons_of_mem _ (hv))))) (fun h => absurd (by rw [hxy]) h)
theorem rl_if_eq {l : Launch} {G : Nv} {b L : Nat} {xs : Nat → Int32} {pc pc' : Nat} {lv : List (Option MV)} {st : List MV} {μ : Mem} {x off : Int} {tgt : Nat} (hd : decode code pc = .ok (.ifCond .eq off, 3)) (hp : pc + 3 = pc') (ht : (pc : Int) + off = (tgt : Int)) (kt : x = 0 → RLw l G b L xs tgt lv (st) μ) (kf : ¬ (x = 0) → RLw l G b L xs pc' lv (st) μ) : RLw l G b L xs pc lv (vI x :: st) μ := by
  subst hp
  intro p e s m below meth c H locs ls X hP hD hS hl hn hm hol hos
  have hx : C32 x := hos _ List.mem_cons_self
  show W p l e room_1 s m #[Value.ref b] below meth c H locs 88 3747 (lw_Z below #[Value.ref b] s) (F0 m pc ls (.int (Int32.ofInt x) :: st.map (rv G)))
  exact lv_if_eq X.1.1 X.1.2.1 hd ht (fun h => kt ((i32_eq hx (by decide)).mp h) p e s m below meth c H locs ls X hP hD hS hl hn hm hol (fun v hv => hos v (List.mem_cons_of_mem _ (hv)))) (fun h => kf (fun z => h ((i32_eq hx (by decide)).mpr z)) p e s m below meth c H locs ls X hP hD hS hl hn hm hol (fun v hv => hos v (List.mem_cons_of_mem _ (hv))))
theorem rl_swIn {l : Launch} {G : Nv} {b L : Nat} {xs : Nat → Int32} {pc : Nat} {lv : List (Option MV)} {st : List MV} {μ : Mem} {dflt lo hi x off : Int} {offs : Array Int} {len tgt j : Nat} (hd : decode code pc = .ok (.tableswitch dflt lo hi offs, len)) (hx : x = lo + j) (hj : lo + j ≤ hi) (ho : offs[j]? = some off) (ht : (pc : Int) + off = (tgt : Int)) (k : RLw l G b L xs tgt lv (st) μ) : RLw l G b L xs pc lv (vI x :: st) μ := by
  intro p e s m below meth c H locs ls X hP hD hS hl hn hm hol hos
  have hc : (Int32.ofInt x).toInt = x := i32_toInt (hos _ List.mem_cons_self)
  show W p l e room_1 s m #[Value.ref b] below meth c H locs 88 3747 (lw_Z below #[Value.ref b] s) (F0 m pc ls (.int (Int32.ofInt x) :: st.map (rv G)))
  exact lv_tableIn X.1.1 X.1.2.1 hd (by omega) (by omega) (by rw [hc, hx, show (lo + (j : Int) - lo).toNat = j by omega]; exact ho) ht (k p e s m below meth c H locs ls X hP hD hS hl hn hm hol (fun v hv => hos v (List.mem_cons_of_mem _ (hv))))
theorem rl_swOut {l : Launch} {G : Nv} {b L : Nat} {xs : Nat → Int32} {pc : Nat} {lv : List (Option MV)} {st : List MV} {μ : Mem} {dflt lo hi x : Int} {offs : Array Int} {len tgt : Nat} (hd : decode code pc = .ok (.tableswitch dflt lo hi offs, len)) (hx : x < lo ∨ hi < x) (ht : (pc : Int) + dflt = (tgt : Int)) (k : RLw l G b L xs tgt lv (st) μ) : RLw l G b L xs pc lv (vI x :: st) μ := by
  intro p e s m below meth c H locs ls X hP hD hS hl hn hm hol hos
  have hc : (Int32.ofInt x).toInt = x := i32_toInt (hos _ List.mem_cons_self)
  show W p l e room_1 s m #[Value.ref b] below meth c H locs 88 3747 (lw_Z below #[Value.ref b] s) (F0 m pc ls (.int (Int32.ofInt x) :: st.map (rv G)))
  exact lv_tableOut X.1.1 X.1.2.1 hd (by rw [hc]; exact hx) ht (k p e s m below meth c H locs ls X hP hD hS hl hn hm hol (fun v hv => hos v (List.mem_cons_of_mem _ (hv))))
theorem rl_iinc {l : Launch} {G : Nv} {b L : Nat} {xs : Nat → Int32} {pc pc' : Nat} {lv lv' : List (Option MV)} {st : List MV} {μ : Mem} {i : Nat} {n x : Int} (hd : decode code pc = .ok (.iinc i n, 3)) (hp : pc + 3 = pc') (hi : i < 4) (hg : lv[i]? = some (some (vI x))) (he : lvset1 lv i (vI (wI (x + n))) = lv') (k : RLw l G b L xs pc' lv' (st) μ) : RLw l G b L xs pc lv (st) μ := by
  subst hp; subst he
  intro p e s m below meth c H locs ls X hP hD hS hl hn hm hol hos
  obtain ⟨kk, hkk⟩ := List.getElem?_of_mem (lvl_mem (G := G) hg)
  refine lv_iinc (v := Int32.ofInt (wI (x + n))) X.1.1 X.1.2.1 hd hl hkk (by rw [ofInt_wI, Int32.ofInt_add]) hi rfl (fun ls' hl' => ?_)
  exact k p e s m below meth c H locs ls' X hP hD hS (lvh1 (v := vI (wI (x + n))) rfl hl') (by rw [lvset1_len]; exact hn) hm (okl1 hol (wI_C _)) hos
theorem rl_true {l : Launch} {G : Nv} {b L : Nat} {xs : Nat → Int32} {pc : Nat} {lv : List (Option MV)} {μ : Mem} (hd : decode code pc = .ok (.ireturn, 1)) : RLw l G b L xs pc lv [vI 1] μ := by
  intro p e s m below meth c H locs ls X hP hD hS hl hn hm hol hos
  refine va_forget (fun q hq => hS.2.2 q hq) ?_
  exact lw_ret X.1.1 X.1.2.1 X.1.2.2.1 X.1.2.2.2.2.2.2.2.2.1 hd
def LFits (M' : MD) : Prop := M'.2.2.2.2.1 + 1 ≤ 13 ∧ 8 + (M'.2.2.1 + 11) + M'.2.2.2.2.2 ≤ 470
theorem lw_good (M' : MD) (h : MD.code M' ∈ TBL) : GoodIn lw_tbl (wsM M') := fun w hw => by
  rcases List.mem_cons.mp hw with rfl | hw
  · exact ⟨(List.mem_filter.mp h).1, tbl_good _ h⟩
  · exact ⟨(List.mem_filter.mp hw).1, tbl_good _ hw⟩
theorem rl_callV {l : Launch} {G : Nv} {b L : Nat} {xs : Nat → Int32} {pc : Nat} {lv : List (Option MV)} {st : List MV} {μ : Mem} {M' : MD} {Q' : Option MV → Mem → Prop} {as : List MV} {rc idx n : Nat} (hs : Sp l G S88 M' (vR rc :: as) μ Q') (hd : decode code pc = .ok (.invokevirtual idx, 3)) (hg : MGood M' n) (hi : MInst M') (hb : Recv S88 rc M'.1.cls) (hrc : rc < 88) (hf : LFits M') (hw : Cond.methodLink R_law idx M'.1 ∈ TBL) (hn : as.length = n) (hst : (st.map catv).sum ≤ 8) (k : ∀ r μ', Q' r μ' → okr M'.2.2.2.1 r → RLw l G b L xs (pc + 3) lv (r.toList ++ st) μ') : RLw l G b L xs pc lv (as.reverse ++ vR rc :: st) μ := by
  intro p e s m below meth c H locs ls X hP hD hS hl hnn hm hol hos
  rw [show (as.reverse ++ vR rc :: st).map (rv G) = (as.map (rv G)).reverse ++ .ref (G.2.1 rc) :: st.map (rv G) by simp [rv]]
  have hA := X.2.2.1
  have hKK := X.2.1
  have hF : ∀ x, WA G S88 H.size x → s.heap.size ≤ x := fun x hx => by
    rcases (wa_eq (μ := μ) x).mpr hx with ⟨j, e, h⟩ | h
    · exact hD.2 j (x, e) h
    · exact Nat.le_trans hS.1 h
  have hrecv : ∃ cellB : Cell, H[G.2.1 rc]? = some cellB ∧ cellB.vm.isStatics = false ∧ s.vm.findClass M'.1.cls = some cellB.cls := by
    rcases hb with ⟨ci, slots, T, N, h1, h2⟩ | ⟨h, j, hj, h0⟩
    · exact va_recv hKK hP h2 (wsOf_obj h1)
    · omega
  have hrun := va_runV (As := as.map (rv G)) (rest := st.map (rv G)) (n := n) (H := H) (locs := locs) (cells := 88) (slots := 3747) (p := p) (e := e) (below := below) (meth := meth) (R := room_1) (g := F0 m pc ls ((as.map (rv G)).reverse ++ .ref (G.2.1 rc) :: st.map (rv G))) ⟨X.1.1, X.1.2.1, X.1.2.2.2.1, X.1.2.2.2.2.1, X.1.2.2.2.2.2.1⟩ (hs (List.forall_mem_cons.mpr ⟨trivial, fun v hv => hos v (List.mem_append_left _ (List.mem_reverse.mpr hv))⟩) hm H.size) ⟨callB_of (R := room_1) (Ts := lw_tbl) n X.1.2.2.2.2.2.1 (lw_good M' hg.1) rfl rfl rfl (X.1.2.2.2.2.2.1 _ (List.mem_filter.mp hg.2.1).1) (X.1.2.2.2.2.2.1 _ (List.mem_filter.mp hw).1) hg.2.2 hf, (X.1.2.2.2.2.2.1 _ (List.mem_filter.mp hi.1).1), (X.1.2.2.2.2.2.1 _ (List.mem_filter.mp hi.2).1)⟩ ⟨PcOf_blind, hrecv, fun U hU hW => ⟨rfl, by rw [hU], by rw [hU]; exact hP, va_K.moved hW.alike hKK, hD.weaken (fun _ _ _ _ => trivial), by
    rw [hU]
    exact ((hA.kept hS.2.1).narrow hF).warm hW⟩⟩ rfl (by simpa using hn) hl.1 rfl (lv_room (cat_sum hst)) hd ⟨Nat.le_refl _, Nat.le_refl _⟩
  intro TT hT XX
  obtain ⟨v, st₀, t, T', L', h0, X', hL, e1, e2, ⟨⟨r, μ', hv, hq', hok, hm', hP1, hK1, hD1⟩, hz, hkp⟩, stp⟩ := hrun TT hT XX
  cases hv
  rw [h0] at hz hkp
  have hval : (r.map (rv G)).toList ++ st.map (rv G) = (r.toList ++ st).map (rv G) := by cases r <;> rfl
  rw [hval] at stp
  have hos' : oks (r.toList ++ st) := fun w hw => by
    rcases List.mem_append.mp hw with h | h
    · cases r with
      | none => cases h
      | some z => rw [List.mem_singleton.mp h]; exact hok.1
    · exact hos w (List.mem_append_right _ (List.mem_cons_of_mem _ h))
  obtain ⟨t2, a1, b1⟩ := k r μ' hq' hok p e s m below meth c T'.heap (locs ++ L') ls X (by rw [e1]; exact hP1) (hD1.weaken (fun _ x _ h => hF _ h))
    ⟨Nat.le_trans hS.1 (by rw [e1]; exact hz), fun x h1 h2 => by rw [e1, hkp x (Nat.lt_of_lt_of_le h1 hS.1) (fun z => h2 (hF _ z))]; exact hS.2.1 x h1 h2, fun x hx => by
      rcases List.mem_append.mp hx with h | h
      · exact hS.2.2 x h
      · exact hF _ (hL x h)⟩ hl hnn hm' hol hos' T' rfl X'
  exact ⟨t2, stp t2 a1, b1⟩
theorem rl_call0_I {l : Launch} {G : Nv} {b L : Nat} {xs : Nat → Int32} {pc pc' : Nat} {lv : List (Option MV)} {st : List MV} {μ : Mem} {M' : MD} {o' : Option (Int)} {v : Int} {rc idx : Nat} (hs : SP l G S88 M' [vR rc] μ o' (jI μ)) (hv : o' = some v) (hd : decode code pc = .ok (.invokevirtual idx, 3)) (hp : pc + 3 = pc') (hg : MGood M' 0) (hi : MInst M') (hb : Recv S88 rc M'.1.cls) (hrc : rc < 88) (hf : LFits M') (hw : Cond.methodLink R_law idx M'.1 ∈ TBL) (hst : (st.map catv).sum ≤ 8) (k : C32 v → RLw l G b L xs pc' lv (vI v :: st) μ) : RLw l G b L xs pc lv (vR rc :: st) μ := by
  subst hp
  exact rl_callV (as := []) (hs v hv) hd hg hi hb hrc hf hw rfl hst (fun r μ' hq ho => by
  cases hq
  exact k ho.1)
theorem rl_call0_IM {l : Launch} {G : Nv} {b L : Nat} {xs : Nat → Int32} {pc pc' : Nat} {lv : List (Option MV)} {st : List MV} {μ : Mem} {M' : MD} {o' : Option (Int × Mem)} {v : Int × Mem} {rc idx : Nat} (hs : SP l G S88 M' [vR rc] μ o' (jIM)) (hv : o' = some v) (hd : decode code pc = .ok (.invokevirtual idx, 3)) (hp : pc + 3 = pc') (hg : MGood M' 0) (hi : MInst M') (hb : Recv S88 rc M'.1.cls) (hrc : rc < 88) (hf : LFits M') (hw : Cond.methodLink R_law idx M'.1 ∈ TBL) (hst : (st.map catv).sum ≤ 8) (k : C32 v.1 → RLw l G b L xs pc' lv (vI v.1 :: st) v.2) : RLw l G b L xs pc lv (vR rc :: st) μ := by
  subst hp
  exact rl_callV (as := []) (hs v hv) hd hg hi hb hrc hf hw rfl hst (fun r μ' hq ho => by
  cases hq
  exact k ho.1)
theorem rl_call1_I {l : Launch} {G : Nv} {b L : Nat} {xs : Nat → Int32} {pc pc' : Nat} {lv : List (Option MV)} {st : List MV} {μ : Mem} {M' : MD} {o' : Option (Int)} {a0 : MV} {v : Int} {rc idx : Nat} (hs : SP l G S88 M' [vR rc, a0] μ o' (jI μ)) (hv : o' = some v) (hd : decode code pc = .ok (.invokevirtual idx, 3)) (hp : pc + 3 = pc') (hg : MGood M' 1) (hi : MInst M') (hb : Recv S88 rc M'.1.cls) (hrc : rc < 88) (hf : LFits M') (hw : Cond.methodLink R_law idx M'.1 ∈ TBL) (hst : (st.map catv).sum ≤ 8) (k : C32 v → RLw l G b L xs pc' lv (vI v :: st) μ) : RLw l G b L xs pc lv (a0 :: vR rc :: st) μ := by
  subst hp
  exact rl_callV (as := [a0]) (hs v hv) hd hg hi hb hrc hf hw rfl hst (fun r μ' hq ho => by
  cases hq
  exact k ho.1)
theorem rl_call1_IM {l : Launch} {G : Nv} {b L : Nat} {xs : Nat → Int32} {pc pc' : Nat} {lv : List (Option MV)} {st : List MV} {μ : Mem} {M' : MD} {o' : Option (Int × Mem)} {a0 : MV} {v : Int × Mem} {rc idx : Nat} (hs : SP l G S88 M' [vR rc, a0] μ o' (jIM)) (hv : o' = some v) (hd : decode code pc = .ok (.invokevirtual idx, 3)) (hp : pc + 3 = pc') (hg : MGood M' 1) (hi : MInst M') (hb : Recv S88 rc M'.1.cls) (hrc : rc < 88) (hf : LFits M') (hw : Cond.methodLink R_law idx M'.1 ∈ TBL) (hst : (st.map catv).sum ≤ 8) (k : C32 v.1 → RLw l G b L xs pc' lv (vI v.1 :: st) v.2) : RLw l G b L xs pc lv (a0 :: vR rc :: st) μ := by
  subst hp
  exact rl_callV (as := [a0]) (hs v hv) hd hg hi hb hrc hf hw rfl hst (fun r μ' hq ho => by
  cases hq
  exact k ho.1)
theorem rl_call2_I {l : Launch} {G : Nv} {b L : Nat} {xs : Nat → Int32} {pc pc' : Nat} {lv : List (Option MV)} {st : List MV} {μ : Mem} {M' : MD} {o' : Option (Int)} {a0 a1 : MV} {v : Int} {rc idx : Nat} (hs : SP l G S88 M' [vR rc, a0, a1] μ o' (jI μ)) (hv : o' = some v) (hd : decode code pc = .ok (.invokevirtual idx, 3)) (hp : pc + 3 = pc') (hg : MGood M' 2) (hi : MInst M') (hb : Recv S88 rc M'.1.cls) (hrc : rc < 88) (hf : LFits M') (hw : Cond.methodLink R_law idx M'.1 ∈ TBL) (hst : (st.map catv).sum ≤ 8) (k : C32 v → RLw l G b L xs pc' lv (vI v :: st) μ) : RLw l G b L xs pc lv (a1 :: a0 :: vR rc :: st) μ := by
  subst hp
  exact rl_callV (as := [a0, a1]) (hs v hv) hd hg hi hb hrc hf hw rfl hst (fun r μ' hq ho => by
  cases hq
  exact k ho.1)
theorem rl_call2_IM {l : Launch} {G : Nv} {b L : Nat} {xs : Nat → Int32} {pc pc' : Nat} {lv : List (Option MV)} {st : List MV} {μ : Mem} {M' : MD} {o' : Option (Int × Mem)} {a0 a1 : MV} {v : Int × Mem} {rc idx : Nat} (hs : SP l G S88 M' [vR rc, a0, a1] μ o' (jIM)) (hv : o' = some v) (hd : decode code pc = .ok (.invokevirtual idx, 3)) (hp : pc + 3 = pc') (hg : MGood M' 2) (hi : MInst M') (hb : Recv S88 rc M'.1.cls) (hrc : rc < 88) (hf : LFits M') (hw : Cond.methodLink R_law idx M'.1 ∈ TBL) (hst : (st.map catv).sum ≤ 8) (k : C32 v.1 → RLw l G b L xs pc' lv (vI v.1 :: st) v.2) : RLw l G b L xs pc lv (a1 :: a0 :: vR rc :: st) μ := by
  subst hp
  exact rl_callV (as := [a0, a1]) (hs v hv) hd hg hi hb hrc hf hw rfl hst (fun r μ' hq ho => by
  cases hq
  exact k ho.1)
theorem rl_call3_I {l : Launch} {G : Nv} {b L : Nat} {xs : Nat → Int32} {pc pc' : Nat} {lv : List (Option MV)} {st : List MV} {μ : Mem} {M' : MD} {o' : Option (Int)} {a0 a1 a2 : MV} {v : Int} {rc idx : Nat} (hs : SP l G S88 M' [vR rc, a0, a1, a2] μ o' (jI μ)) (hv : o' = some v) (hd : decode code pc = .ok (.invokevirtual idx, 3)) (hp : pc + 3 = pc') (hg : MGood M' 3) (hi : MInst M') (hb : Recv S88 rc M'.1.cls) (hrc : rc < 88) (hf : LFits M') (hw : Cond.methodLink R_law idx M'.1 ∈ TBL) (hst : (st.map catv).sum ≤ 8) (k : C32 v → RLw l G b L xs pc' lv (vI v :: st) μ) : RLw l G b L xs pc lv (a2 :: a1 :: a0 :: vR rc :: st) μ := by
  subst hp
  exact rl_callV (as := [a0, a1, a2]) (hs v hv) hd hg hi hb hrc hf hw rfl hst (fun r μ' hq ho => by
  cases hq
  exact k ho.1)
theorem rl_call3_IM {l : Launch} {G : Nv} {b L : Nat} {xs : Nat → Int32} {pc pc' : Nat} {lv : List (Option MV)} {st : List MV} {μ : Mem} {M' : MD} {o' : Option (Int × Mem)} {a0 a1 a2 : MV} {v : Int × Mem} {rc idx : Nat} (hs : SP l G S88 M' [vR rc, a0, a1, a2] μ o' (jIM)) (hv : o' = some v) (hd : decode code pc = .ok (.invokevirtual idx, 3)) (hp : pc + 3 = pc') (hg : MGood M' 3) (hi : MInst M') (hb : Recv S88 rc M'.1.cls) (hrc : rc < 88) (hf : LFits M') (hw : Cond.methodLink R_law idx M'.1 ∈ TBL) (hst : (st.map catv).sum ≤ 8) (k : C32 v.1 → RLw l G b L xs pc' lv (vI v.1 :: st) v.2) : RLw l G b L xs pc lv (a2 :: a1 :: a0 :: vR rc :: st) μ := by
  subst hp
  exact rl_callV (as := [a0, a1, a2]) (hs v hv) hd hg hi hb hrc hf hw rfl hst (fun r μ' hq ho => by
  cases hq
  exact k ho.1)
theorem rl_call4_I {l : Launch} {G : Nv} {b L : Nat} {xs : Nat → Int32} {pc pc' : Nat} {lv : List (Option MV)} {st : List MV} {μ : Mem} {M' : MD} {o' : Option (Int)} {a0 a1 a2 a3 : MV} {v : Int} {rc idx : Nat} (hs : SP l G S88 M' [vR rc, a0, a1, a2, a3] μ o' (jI μ)) (hv : o' = some v) (hd : decode code pc = .ok (.invokevirtual idx, 3)) (hp : pc + 3 = pc') (hg : MGood M' 4) (hi : MInst M') (hb : Recv S88 rc M'.1.cls) (hrc : rc < 88) (hf : LFits M') (hw : Cond.methodLink R_law idx M'.1 ∈ TBL) (hst : (st.map catv).sum ≤ 8) (k : C32 v → RLw l G b L xs pc' lv (vI v :: st) μ) : RLw l G b L xs pc lv (a3 :: a2 :: a1 :: a0 :: vR rc :: st) μ := by
  subst hp
  exact rl_callV (as := [a0, a1, a2, a3]) (hs v hv) hd hg hi hb hrc hf hw rfl hst (fun r μ' hq ho => by
  cases hq
  exact k ho.1)
theorem rl_call4_IM {l : Launch} {G : Nv} {b L : Nat} {xs : Nat → Int32} {pc pc' : Nat} {lv : List (Option MV)} {st : List MV} {μ : Mem} {M' : MD} {o' : Option (Int × Mem)} {a0 a1 a2 a3 : MV} {v : Int × Mem} {rc idx : Nat} (hs : SP l G S88 M' [vR rc, a0, a1, a2, a3] μ o' (jIM)) (hv : o' = some v) (hd : decode code pc = .ok (.invokevirtual idx, 3)) (hp : pc + 3 = pc') (hg : MGood M' 4) (hi : MInst M') (hb : Recv S88 rc M'.1.cls) (hrc : rc < 88) (hf : LFits M') (hw : Cond.methodLink R_law idx M'.1 ∈ TBL) (hst : (st.map catv).sum ≤ 8) (k : C32 v.1 → RLw l G b L xs pc' lv (vI v.1 :: st) v.2) : RLw l G b L xs pc lv (a3 :: a2 :: a1 :: a0 :: vR rc :: st) μ := by
  subst hp
  exact rl_callV (as := [a0, a1, a2, a3]) (hs v hv) hd hg hi hb hrc hf hw rfl hst (fun r μ' hq ho => by
  cases hq
  exact k ho.1)
