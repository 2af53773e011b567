def iDiv (x y : Int) : Int := (Int32.ofInt x / Int32.ofInt y).toInt
def iRem (x y : Int) : Int := (Int32.ofInt x - Int32.ofInt x / Int32.ofInt y * Int32.ofInt y).toInt
def iShl (x y : Int) : Int := (Int32.ofInt x <<< (Int32.ofInt y &&& 31)).toInt
def iShr (x y : Int) : Int := (Int32.ofInt x >>> (Int32.ofInt y &&& 31)).toInt
def iUshr (x y : Int) : Int := ((Int32.ofInt x).toUInt32 >>> ((Int32.ofInt y).toUInt32 &&& Int32.toUInt32 31)).toInt32.toInt
def iAnd (x y : Int) : Int := (Int32.ofInt x &&& Int32.ofInt y).toInt
def iOr (x y : Int) : Int := (Int32.ofInt x ||| Int32.ofInt y).toInt
def lAnd (x y : Int) : Int := (Int64.ofInt x &&& Int64.ofInt y).toInt
def lOr (x y : Int) : Int := (Int64.ofInt x ||| Int64.ofInt y).toInt
def lXor (x y : Int) : Int := (Int64.ofInt x ^^^ Int64.ofInt y).toInt
def lShl (x y : Int) : Int := (Int64.ofInt x <<< ((Int32.ofInt y).toInt64 &&& 63)).toInt
def lShr (x y : Int) : Int := (Int64.ofInt x >>> ((Int32.ofInt y).toInt64 &&& 63)).toInt
def i2b (x : Int) : Int := (Int32.ofInt x).toInt8.toInt32.toInt
def i2s (x : Int) : Int := (Int32.ofInt x).toInt16.toInt32.toInt
def i2c (x : Int) : Int := ((Int32.ofInt x).toUInt32 % 65536).toInt32.toInt
def l2i (x : Int) : Int := (Int64.ofInt x).toInt32.toInt
def lCmp (x y : Int) : Int := if y < x then 1 else if x = y then 0 else -1
theorem lCmp_C (x y : Int) : C32 (lCmp x y) := by
  unfold lCmp
  split
  · decide
  · split <;> decide
theorem ra_iconst {l : Launch} {G : Nv} {Sh : Shp} {M : MD} {Q : Option MV → Mem → Prop} {pc pc' : Nat} {lv : List (Option MV)} {st : List MV} {μ : Mem} {n : Int} (hd : decode M.2.1 pc = .ok (.iconst n, 1)) (hp : pc + 1 = pc') (hC : C32 n) (k : RA l G Sh M Q pc' lv (vI n :: st) μ) : RA l G Sh M Q pc lv (st) μ := by
  subst hp
  refine ra_go (st' := vI n :: st) (fun hos hol hm => ?_) ?_ k
  · exact List.forall_mem_cons.mpr ⟨hC, fun v hv => hos v (hv)⟩
  · intro p e s m args below meth c H locs ls QQ X hP hS hl hm hol hos kk
    show W p l e (rmM M) s m args below meth c H locs 0 0 QQ (F0 m pc ls (st.map (rv G)))
    refine lv_iconst X.1 X.2.1 hd rfl ?_
    exact kk
theorem ra_bipush {l : Launch} {G : Nv} {Sh : Shp} {M : MD} {Q : Option MV → Mem → Prop} {pc pc' : Nat} {lv : List (Option MV)} {st : List MV} {μ : Mem} {n : Int} (hd : decode M.2.1 pc = .ok (.bipush n, 2)) (hp : pc + 2 = pc') (hC : C32 n) (hv : (Int8.ofInt n).toInt32 = Int32.ofInt n) (k : RA l G Sh M Q pc' lv (vI n :: st) μ) : RA l G Sh M Q pc lv (st) μ := by
  subst hp
  refine ra_go (st' := vI n :: st) (fun hos hol hm => ?_) ?_ k
  · exact List.forall_mem_cons.mpr ⟨hC, fun v hv => hos v (hv)⟩
  · intro p e s m args below meth c H locs ls QQ X hP hS hl hm hol hos kk
    show W p l e (rmM M) s m args below meth c H locs 0 0 QQ (F0 m pc ls (st.map (rv G)))
    refine lv_bipush X.1 X.2.1 hd hv ?_
    exact kk
theorem ra_sipush {l : Launch} {G : Nv} {Sh : Shp} {M : MD} {Q : Option MV → Mem → Prop} {pc pc' : Nat} {lv : List (Option MV)} {st : List MV} {μ : Mem} {n : Int} (hd : decode M.2.1 pc = .ok (.sipush n, 3)) (hp : pc + 3 = pc') (hC : C32 n) (hv : (Int16.ofInt n).toInt32 = Int32.ofInt n) (k : RA l G Sh M Q pc' lv (vI n :: st) μ) : RA l G Sh M Q pc lv (st) μ := by
  subst hp
  refine ra_go (st' := vI n :: st) (fun hos hol hm => ?_) ?_ k
  · exact List.forall_mem_cons.mpr ⟨hC, fun v hv => hos v (hv)⟩
  · intro p e s m args below meth c H locs ls QQ X hP hS hl hm hol hos kk
    show W p l e (rmM M) s m args below meth c H locs 0 0 QQ (F0 m pc ls (st.map (rv G)))
    refine lv_sipush X.1 X.2.1 hd hv ?_
    exact kk
theorem ra_lconst {l : Launch} {G : Nv} {Sh : Shp} {M : MD} {Q : Option MV → Mem → Prop} {pc pc' : Nat} {lv : List (Option MV)} {st : List MV} {μ : Mem} {n : Fin 2} {x : Int} (hd : decode M.2.1 pc = .ok (.lconst n, 1)) (hp : pc + 1 = pc') (hC : C64 x) (hv : Int64.ofNat (n : Nat) = Int64.ofInt x) (k : RA l G Sh M Q pc' lv (vL x :: st) μ) : RA l G Sh M Q pc lv (st) μ := by
  subst hp
  refine ra_go (st' := vL x :: st) (fun hos hol hm => ?_) ?_ k
  · exact List.forall_mem_cons.mpr ⟨hC, fun v hv => hos v (hv)⟩
  · intro p e s m args below meth c H locs ls QQ X hP hS hl hm hol hos kk
    show W p l e (rmM M) s m args below meth c H locs 0 0 QQ (F0 m pc ls (st.map (rv G)))
    refine lv_lconst X.1 X.2.1 hd hv ?_
    exact kk
theorem ra_ldc {l : Launch} {G : Nv} {Sh : Shp} {M : MD} {Q : Option MV → Mem → Prop} {pc pc' : Nat} {lv : List (Option MV)} {st : List MV} {μ : Mem} {i : Nat} {x : Int} (hd : decode M.2.1 pc = .ok (.ldc i, 2)) (hp : pc + 2 = pc') (hC : C32 x) (hw : Cond.constant M.1.cls i (Int32.ofInt x) ∈ TBL) (k : RA l G Sh M Q pc' lv (vI x :: st) μ) : RA l G Sh M Q pc lv (st) μ := by
  subst hp
  refine ra_go (st' := vI x :: st) (fun hos hol hm => ?_) ?_ k
  · exact List.forall_mem_cons.mpr ⟨hC, fun v hv => hos v (hv)⟩
  · intro p e s m args below meth c H locs ls QQ X hP hS hl hm hol hos kk
    show W p l e (rmM M) s m args below meth c H locs 0 0 QQ (F0 m pc ls (st.map (rv G)))
    refine lv_ldc X.1 X.2.1 X.2.2.2.2.2.1 (X.2.2.2.2.2.2.1 _ (List.mem_cons_of_mem _ hw)) hd ?_
    exact kk
theorem ra_ldcw {l : Launch} {G : Nv} {Sh : Shp} {M : MD} {Q : Option MV → Mem → Prop} {pc pc' : Nat} {lv : List (Option MV)} {st : List MV} {μ : Mem} {i : Nat} {x : Int} (hd : decode M.2.1 pc = .ok (.ldc_w i, 3)) (hp : pc + 3 = pc') (hC : C32 x) (hw : Cond.constant M.1.cls i (Int32.ofInt x) ∈ TBL) (k : RA l G Sh M Q pc' lv (vI x :: st) μ) : RA l G Sh M Q pc lv (st) μ := by
  subst hp
  refine ra_go (st' := vI x :: st) (fun hos hol hm => ?_) ?_ k
  · exact List.forall_mem_cons.mpr ⟨hC, fun v hv => hos v (hv)⟩
  · intro p e s m args below meth c H locs ls QQ X hP hS hl hm hol hos kk
    show W p l e (rmM M) s m args below meth c H locs 0 0 QQ (F0 m pc ls (st.map (rv G)))
    refine lv_ldcw X.1 X.2.1 X.2.2.2.2.2.1 (X.2.2.2.2.2.2.1 _ (List.mem_cons_of_mem _ hw)) hd ?_
    exact kk
theorem ra_ldc2 {l : Launch} {G : Nv} {Sh : Shp} {M : MD} {Q : Option MV → Mem → Prop} {pc pc' : Nat} {lv : List (Option MV)} {st : List MV} {μ : Mem} {i : Nat} {x : Int} (hd : decode M.2.1 pc = .ok (.ldc2_w i, 3)) (hp : pc + 3 = pc') (hC : C64 x) (hw : Cond.constantLong M.1.cls i (Int64.ofInt x) ∈ TBL) (k : RA l G Sh M Q pc' lv (vL x :: st) μ) : RA l G Sh M Q pc lv (st) μ := by
  subst hp
  refine ra_go (st' := vL x :: st) (fun hos hol hm => ?_) ?_ k
  · exact List.forall_mem_cons.mpr ⟨hC, fun v hv => hos v (hv)⟩
  · intro p e s m args below meth c H locs ls QQ X hP hS hl hm hol hos kk
    show W p l e (rmM M) s m args below meth c H locs 0 0 QQ (F0 m pc ls (st.map (rv G)))
    refine lv_ldc2 X.1 X.2.1 X.2.2.2.2.2.1 (X.2.2.2.2.2.2.1 _ (List.mem_cons_of_mem _ hw)) hd ?_
    exact kk
theorem ra_iload_n {l : Launch} {G : Nv} {Sh : Shp} {M : MD} {Q : Option MV → Mem → Prop} {pc pc' : Nat} {lv : List (Option MV)} {st : List MV} {μ : Mem} {j : Fin 4} {i : Nat} {x : Int} (hd : decode M.2.1 pc = .ok (.iload_n j, 1)) (hp : pc + 1 = pc') (hj : (j : Nat) = i) (hg : lv[i]? = some (some (vI x))) (k : RA l G Sh M Q pc' lv (vI x :: st) μ) : RA l G Sh M Q pc lv (st) μ := by
  subst hp
  refine ra_go (st' := vI x :: st) (fun hos hol hm => ?_) ?_ k
  · exact List.forall_mem_cons.mpr ⟨hol _ _ hg, fun v hv => hos v (hv)⟩
  · intro p e s m args below meth c H locs ls QQ X hP hS hl hm hol hos kk
    show W p l e (rmM M) s m args below meth c H locs 0 0 QQ (F0 m pc ls (st.map (rv G)))
    refine lv_iload_n X.1 X.2.1 hd hj (hl.2.2 _ (lvl_mem hg)) ?_
    exact kk
theorem ra_iload {l : Launch} {G : Nv} {Sh : Shp} {M : MD} {Q : Option MV → Mem → Prop} {pc pc' : Nat} {lv : List (Option MV)} {st : List MV} {μ : Mem} {i : Nat} {x : Int} (hd : decode M.2.1 pc = .ok (.iload i, 2)) (hp : pc + 2 = pc') (hg : lv[i]? = some (some (vI x))) (k : RA l G Sh M Q pc' lv (vI x :: st) μ) : RA l G Sh M Q pc lv (st) μ := by
  subst hp
  refine ra_go (st' := vI x :: st) (fun hos hol hm => ?_) ?_ k
  · exact List.forall_mem_cons.mpr ⟨hol _ _ hg, fun v hv => hos v (hv)⟩
  · intro p e s m args below meth c H locs ls QQ X hP hS hl hm hol hos kk
    show W p l e (rmM M) s m args below meth c H locs 0 0 QQ (F0 m pc ls (st.map (rv G)))
    refine lv_iload X.1 X.2.1 hd (hl.2.2 _ (lvl_mem hg)) ?_
    exact kk
theorem ra_lload_n {l : Launch} {G : Nv} {Sh : Shp} {M : MD} {Q : Option MV → Mem → Prop} {pc pc' : Nat} {lv : List (Option MV)} {st : List MV} {μ : Mem} {j : Fin 4} {i : Nat} {x : Int} (hd : decode M.2.1 pc = .ok (.lload_n j, 1)) (hp : pc + 1 = pc') (hj : (j : Nat) = i) (hg : lv[i]? = some (some (vL x))) (k : RA l G Sh M Q pc' lv (vL x :: st) μ) : RA l G Sh M Q pc lv (st) μ := by
  subst hp
  refine ra_go (st' := vL x :: st) (fun hos hol hm => ?_) ?_ k
  · exact List.forall_mem_cons.mpr ⟨hol _ _ hg, fun v hv => hos v (hv)⟩
  · intro p e s m args below meth c H locs ls QQ X hP hS hl hm hol hos kk
    show W p l e (rmM M) s m args below meth c H locs 0 0 QQ (F0 m pc ls (st.map (rv G)))
    refine lv_lload_n X.1 X.2.1 hd hj (hl.2.2 _ (lvl_mem hg)) ?_
    exact kk
theorem ra_lload {l : Launch} {G : Nv} {Sh : Shp} {M : MD} {Q : Option MV → Mem → Prop} {pc pc' : Nat} {lv : List (Option MV)} {st : List MV} {μ : Mem} {i : Nat} {x : Int} (hd : decode M.2.1 pc = .ok (.lload i, 2)) (hp : pc + 2 = pc') (hg : lv[i]? = some (some (vL x))) (k : RA l G Sh M Q pc' lv (vL x :: st) μ) : RA l G Sh M Q pc lv (st) μ := by
  subst hp
  refine ra_go (st' := vL x :: st) (fun hos hol hm => ?_) ?_ k
  · exact List.forall_mem_cons.mpr ⟨hol _ _ hg, fun v hv => hos v (hv)⟩
  · intro p e s m args below meth c H locs ls QQ X hP hS hl hm hol hos kk
    show W p l e (rmM M) s m args below meth c H locs 0 0 QQ (F0 m pc ls (st.map (rv G)))
    refine lv_lload X.1 X.2.1 hd (hl.2.2 _ (lvl_mem hg)) ?_
    exact kk
theorem ra_aload_n {l : Launch} {G : Nv} {Sh : Shp} {M : MD} {Q : Option MV → Mem → Prop} {pc pc' : Nat} {lv : List (Option MV)} {st : List MV} {μ : Mem} {j : Fin 4} {i : Nat} {x : Nat} (hd : decode M.2.1 pc = .ok (.aload_n j, 1)) (hp : pc + 1 = pc') (hj : (j : Nat) = i) (hg : lv[i]? = some (some (vR x))) (k : RA l G Sh M Q pc' lv (vR x :: st) μ) : RA l G Sh M Q pc lv (st) μ := by
  subst hp
  refine ra_go (st' := vR x :: st) (fun hos hol hm => ?_) ?_ k
  · exact List.forall_mem_cons.mpr ⟨hol _ _ hg, fun v hv => hos v (hv)⟩
  · intro p e s m args below meth c H locs ls QQ X hP hS hl hm hol hos kk
    show W p l e (rmM M) s m args below meth c H locs 0 0 QQ (F0 m pc ls (st.map (rv G)))
    refine lv_aload_n X.1 X.2.1 hd hj (hl.2.2 _ (lvl_mem hg)) ?_
    exact kk
theorem ra_dup {l : Launch} {G : Nv} {Sh : Shp} {M : MD} {Q : Option MV → Mem → Prop} {pc pc' : Nat} {lv : List (Option MV)} {st : List MV} {μ : Mem} {v : MV} (hd : decode M.2.1 pc = .ok (.dup, 1)) (hp : pc + 1 = pc') (hc : catv v = 1) (k : RA l G Sh M Q pc' lv (v :: v :: st) μ) : RA l G Sh M Q pc lv (v :: st) μ := by
  subst hp
  refine ra_go (st' := v :: v :: st) (fun hos hol hm => ?_) ?_ k
  · exact List.forall_mem_cons.mpr ⟨hos v List.mem_cons_self, hos⟩
  · intro p e s m args below meth c H locs ls QQ X hP hS hl hm hol hos kk
    exact lv_dup X.1 X.2.1 hd ((catv_rv G v).trans hc) kk
theorem ra_pop {l : Launch} {G : Nv} {Sh : Shp} {M : MD} {Q : Option MV → Mem → Prop} {pc pc' : Nat} {lv : List (Option MV)} {st : List MV} {μ : Mem} {v : MV} (hd : decode M.2.1 pc = .ok (.pop, 1)) (hp : pc + 1 = pc') (hc : catv v = 1) (k : RA l G Sh M Q pc' lv st μ) : RA l G Sh M Q pc lv (v :: st) μ := by
  subst hp
  refine ra_go (st' := st) (fun hos hol hm => ?_) ?_ k
  · exact fun v hv => hos v (List.mem_cons_of_mem _ hv)
  · intro p e s m args below meth c H locs ls QQ X hP hS hl hm hol hos kk
    exact lv_pop X.1 X.2.1 hd ((catv_rv G v).trans hc) kk
theorem ra_dup2 {l : Launch} {G : Nv} {Sh : Shp} {M : MD} {Q : Option MV → Mem → Prop} {pc pc' : Nat} {lv : List (Option MV)} {st : List MV} {μ : Mem} {v w : MV} (hd : decode M.2.1 pc = .ok (.dup2, 1)) (hp : pc + 1 = pc') (hc : catv v = 1) (hw : catv w = 1) (k : RA l G Sh M Q pc' lv (v :: w :: v :: w :: st) μ) : RA l G Sh M Q pc lv (v :: w :: st) μ := by
  subst hp
  refine ra_go (st' := v :: w :: v :: w :: st) (fun hos hol hm => ?_) ?_ k
  · exact List.forall_mem_cons.mpr ⟨hos v List.mem_cons_self, List.forall_mem_cons.mpr ⟨hos w (List.mem_cons_of_mem _ List.mem_cons_self), hos⟩⟩
  · intro p e s m args below meth c H locs ls QQ X hP hS hl hm hol hos kk
    exact lv_dup2_11 X.1 X.2.1 hd ((catv_rv G v).trans hc) ((catv_rv G w).trans hw) kk
theorem ra_iadd {l : Launch} {G : Nv} {Sh : Shp} {M : MD} {Q : Option MV → Mem → Prop} {pc pc' : Nat} {lv : List (Option MV)} {st : List MV} {μ : Mem} {x y : Int} (hd : decode M.2.1 pc = .ok (.iadd, 1)) (hp : pc + 1 = pc')  (k : RA l G Sh M Q pc' lv (vI (wI (x + y)) :: st) μ) : RA l G Sh M Q pc lv (vI y :: vI x :: st) μ := by
  subst hp
  refine ra_go (st' := vI (wI (x + y)) :: st) (fun hos hol hm => ?_) ?_ k
  · exact List.forall_mem_cons.mpr ⟨wI_C _, fun v hv => hos v (List.mem_cons_of_mem _ (List.mem_cons_of_mem _ (hv)))⟩
  · intro p e s m args below meth c H locs ls QQ X hP hS hl hm hol hos kk
    show W p l e (rmM M) s m args below meth c H locs 0 0 QQ (F0 m pc ls (.int (Int32.ofInt (y)) :: .int (Int32.ofInt (x)) :: st.map (rv G)))
    refine lv_iadd X.1 X.2.1 hd ?_
    have kk : W p l e (rmM M) s m args below meth c H locs 0 0 QQ (F0 m (pc + 1) ls (.int (Int32.ofInt (wI (x + y))) :: st.map (rv G))) := kk
    rw [ofInt_wI, Int32.ofInt_add] at kk
    exact kk
theorem ra_isub {l : Launch} {G : Nv} {Sh : Shp} {M : MD} {Q : Option MV → Mem → Prop} {pc pc' : Nat} {lv : List (Option MV)} {st : List MV} {μ : Mem} {x y : Int} (hd : decode M.2.1 pc = .ok (.isub, 1)) (hp : pc + 1 = pc')  (k : RA l G Sh M Q pc' lv (vI (wI (x - y)) :: st) μ) : RA l G Sh M Q pc lv (vI y :: vI x :: st) μ := by
  subst hp
  refine ra_go (st' := vI (wI (x - y)) :: st) (fun hos hol hm => ?_) ?_ k
  · exact List.forall_mem_cons.mpr ⟨wI_C _, fun v hv => hos v (List.mem_cons_of_mem _ (List.mem_cons_of_mem _ (hv)))⟩
  · intro p e s m args below meth c H locs ls QQ X hP hS hl hm hol hos kk
    show W p l e (rmM M) s m args below meth c H locs 0 0 QQ (F0 m pc ls (.int (Int32.ofInt (y)) :: .int (Int32.ofInt (x)) :: st.map (rv G)))
    refine lv_isub X.1 X.2.1 hd ?_
    have kk : W p l e (rmM M) s m args below meth c H locs 0 0 QQ (F0 m (pc + 1) ls (.int (Int32.ofInt (wI (x - y))) :: st.map (rv G))) := kk
    rw [ofInt_wI, Int32.ofInt_sub] at kk
    exact kk
theorem ra_imul {l : Launch} {G : Nv} {Sh : Shp} {M : MD} {Q : Option MV → Mem → Prop} {pc pc' : Nat} {lv : List (Option MV)} {st : List MV} {μ : Mem} {x y : Int} (hd : decode M.2.1 pc = .ok (.imul, 1)) (hp : pc + 1 = pc')  (k : RA l G Sh M Q pc' lv (vI (wI (x * y)) :: st) μ) : RA l G Sh M Q pc lv (vI y :: vI x :: st) μ := by
  subst hp
  refine ra_go (st' := vI (wI (x * y)) :: st) (fun hos hol hm => ?_) ?_ k
  · exact List.forall_mem_cons.mpr ⟨wI_C _, fun v hv => hos v (List.mem_cons_of_mem _ (List.mem_cons_of_mem _ (hv)))⟩
  · intro p e s m args below meth c H locs ls QQ X hP hS hl hm hol hos kk
    show W p l e (rmM M) s m args below meth c H locs 0 0 QQ (F0 m pc ls (.int (Int32.ofInt (y)) :: .int (Int32.ofInt (x)) :: st.map (rv G)))
    refine lv_imul X.1 X.2.1 hd ?_
    have kk : W p l e (rmM M) s m args below meth c H locs 0 0 QQ (F0 m (pc + 1) ls (.int (Int32.ofInt (wI (x * y))) :: st.map (rv G))) := kk
    rw [ofInt_wI, Int32.ofInt_mul] at kk
    exact kk
theorem ra_ishl {l : Launch} {G : Nv} {Sh : Shp} {M : MD} {Q : Option MV → Mem → Prop} {pc pc' : Nat} {lv : List (Option MV)} {st : List MV} {μ : Mem} {x y : Int} (hd : decode M.2.1 pc = .ok (.ishl, 1)) (hp : pc + 1 = pc')  (k : RA l G Sh M Q pc' lv (vI (iShl x y) :: st) μ) : RA l G Sh M Q pc lv (vI y :: vI x :: st) μ := by
  subst hp
  refine ra_go (st' := vI (iShl x y) :: st) (fun hos hol hm => ?_) ?_ k
  · exact List.forall_mem_cons.mpr ⟨i32_C _, fun v hv => hos v (List.mem_cons_of_mem _ (List.mem_cons_of_mem _ (hv)))⟩
  · intro p e s m args below meth c H locs ls QQ X hP hS hl hm hol hos kk
    show W p l e (rmM M) s m args below meth c H locs 0 0 QQ (F0 m pc ls (.int (Int32.ofInt (y)) :: .int (Int32.ofInt (x)) :: st.map (rv G)))
    refine lv_ishl X.1 X.2.1 hd ?_
    have kk : W p l e (rmM M) s m args below meth c H locs 0 0 QQ (F0 m (pc + 1) ls (.int (Int32.ofInt (iShl x y)) :: st.map (rv G))) := kk
    unfold iShl at kk
    rw [Int32.ofInt_toInt] at kk
    exact kk
theorem ra_ishr {l : Launch} {G : Nv} {Sh : Shp} {M : MD} {Q : Option MV → Mem → Prop} {pc pc' : Nat} {lv : List (Option MV)} {st : List MV} {μ : Mem} {x y : Int} (hd : decode M.2.1 pc = .ok (.ishr, 1)) (hp : pc + 1 = pc')  (k : RA l G Sh M Q pc' lv (vI (iShr x y) :: st) μ) : RA l G Sh M Q pc lv (vI y :: vI x :: st) μ := by
  subst hp
  refine ra_go (st' := vI (iShr x y) :: st) (fun hos hol hm => ?_) ?_ k
  · exact List.forall_mem_cons.mpr ⟨i32_C _, fun v hv => hos v (List.mem_cons_of_mem _ (List.mem_cons_of_mem _ (hv)))⟩
  · intro p e s m args below meth c H locs ls QQ X hP hS hl hm hol hos kk
    show W p l e (rmM M) s m args below meth c H locs 0 0 QQ (F0 m pc ls (.int (Int32.ofInt (y)) :: .int (Int32.ofInt (x)) :: st.map (rv G)))
    refine lv_ishr X.1 X.2.1 hd ?_
    have kk : W p l e (rmM M) s m args below meth c H locs 0 0 QQ (F0 m (pc + 1) ls (.int (Int32.ofInt (iShr x y)) :: st.map (rv G))) := kk
    unfold iShr at kk
    rw [Int32.ofInt_toInt] at kk
    exact kk
theorem ra_iand {l : Launch} {G : Nv} {Sh : Shp} {M : MD} {Q : Option MV → Mem → Prop} {pc pc' : Nat} {lv : List (Option MV)} {st : List MV} {μ : Mem} {x y : Int} (hd : decode M.2.1 pc = .ok (.iand, 1)) (hp : pc + 1 = pc')  (k : RA l G Sh M Q pc' lv (vI (iAnd x y) :: st) μ) : RA l G Sh M Q pc lv (vI y :: vI x :: st) μ := by
  subst hp
  refine ra_go (st' := vI (iAnd x y) :: st) (fun hos hol hm => ?_) ?_ k
  · exact List.forall_mem_cons.mpr ⟨i32_C _, fun v hv => hos v (List.mem_cons_of_mem _ (List.mem_cons_of_mem _ (hv)))⟩
  · intro p e s m args below meth c H locs ls QQ X hP hS hl hm hol hos kk
    show W p l e (rmM M) s m args below meth c H locs 0 0 QQ (F0 m pc ls (.int (Int32.ofInt (y)) :: .int (Int32.ofInt (x)) :: st.map (rv G)))
    refine lv_iand X.1 X.2.1 hd ?_
    have kk : W p l e (rmM M) s m args below meth c H locs 0 0 QQ (F0 m (pc + 1) ls (.int (Int32.ofInt (iAnd x y)) :: st.map (rv G))) := kk
    unfold iAnd at kk
    rw [Int32.ofInt_toInt] at kk
    exact kk
theorem ra_ior {l : Launch} {G : Nv} {Sh : Shp} {M : MD} {Q : Option MV → Mem → Prop} {pc pc' : Nat} {lv : List (Option MV)} {st : List MV} {μ : Mem} {x y : Int} (hd : decode M.2.1 pc = .ok (.ior, 1)) (hp : pc + 1 = pc')  (k : RA l G Sh M Q pc' lv (vI (iOr x y) :: st) μ) : RA l G Sh M Q pc lv (vI y :: vI x :: st) μ := by
  subst hp
  refine ra_go (st' := vI (iOr x y) :: st) (fun hos hol hm => ?_) ?_ k
  · exact List.forall_mem_cons.mpr ⟨i32_C _, fun v hv => hos v (List.mem_cons_of_mem _ (List.mem_cons_of_mem _ (hv)))⟩
  · intro p e s m args below meth c H locs ls QQ X hP hS hl hm hol hos kk
    show W p l e (rmM M) s m args below meth c H locs 0 0 QQ (F0 m pc ls (.int (Int32.ofInt (y)) :: .int (Int32.ofInt (x)) :: st.map (rv G)))
    refine lv_ior X.1 X.2.1 hd ?_
    have kk : W p l e (rmM M) s m args below meth c H locs 0 0 QQ (F0 m (pc + 1) ls (.int (Int32.ofInt (iOr x y)) :: st.map (rv G))) := kk
    unfold iOr at kk
    rw [Int32.ofInt_toInt] at kk
    exact kk
theorem ra_iushr {l : Launch} {G : Nv} {Sh : Shp} {M : MD} {Q : Option MV → Mem → Prop} {pc pc' : Nat} {lv : List (Option MV)} {st : List MV} {μ : Mem} {x y : Int} (hd : decode M.2.1 pc = .ok (.iushr, 1)) (hp : pc + 1 = pc')  (k : RA l G Sh M Q pc' lv (vI (iUshr x y) :: st) μ) : RA l G Sh M Q pc lv (vI y :: vI x :: st) μ := by
  subst hp
  refine ra_go (st' := vI (iUshr x y) :: st) (fun hos hol hm => ?_) ?_ k
  · exact List.forall_mem_cons.mpr ⟨i32_C _, fun v hv => hos v (List.mem_cons_of_mem _ (List.mem_cons_of_mem _ (hv)))⟩
  · intro p e s m args below meth c H locs ls QQ X hP hS hl hm hol hos kk
    show W p l e (rmM M) s m args below meth c H locs 0 0 QQ (F0 m pc ls (.int (Int32.ofInt (y)) :: .int (Int32.ofInt (x)) :: st.map (rv G)))
    refine lv_iushr X.1 X.2.1 hd (show _ = Int32.ofInt (iUshr x y) by unfold iUshr; rw [Int32.ofInt_toInt]) ?_
    exact kk
theorem ra_idiv {l : Launch} {G : Nv} {Sh : Shp} {M : MD} {Q : Option MV → Mem → Prop} {pc pc' : Nat} {lv : List (Option MV)} {st : List MV} {μ : Mem} {x y : Int} (hd : decode M.2.1 pc = .ok (.idiv, 1)) (hp : pc + 1 = pc') (h0 : ¬ y = 0) (k : RA l G Sh M Q pc' lv (vI (iDiv x y) :: st) μ) : RA l G Sh M Q pc lv (vI y :: vI x :: st) μ := by
  subst hp
  refine ra_go (st' := vI (iDiv x y) :: st) (fun hos hol hm => ?_) ?_ k
  · exact List.forall_mem_cons.mpr ⟨i32_C _, fun v hv => hos v (List.mem_cons_of_mem _ (List.mem_cons_of_mem _ (hv)))⟩
  · intro p e s m args below meth c H locs ls QQ X hP hS hl hm hol hos kk
    show W p l e (rmM M) s m args below meth c H locs 0 0 QQ (F0 m pc ls (.int (Int32.ofInt (y)) :: .int (Int32.ofInt (x)) :: st.map (rv G)))
    refine lv_idiv X.1 X.2.1 hd (fun h => h0 ((i32_eq (hos _ List.mem_cons_self) (by decide)).mp h)) ?_
    have kk : W p l e (rmM M) s m args below meth c H locs 0 0 QQ (F0 m (pc + 1) ls (.int (Int32.ofInt (iDiv x y)) :: st.map (rv G))) := kk
    unfold iDiv at kk
    rw [Int32.ofInt_toInt] at kk
    exact kk
theorem ra_irem {l : Launch} {G : Nv} {Sh : Shp} {M : MD} {Q : Option MV → Mem → Prop} {pc pc' : Nat} {lv : List (Option MV)} {st : List MV} {μ : Mem} {x y : Int} (hd : decode M.2.1 pc = .ok (.irem, 1)) (hp : pc + 1 = pc') (h0 : ¬ y = 0) (k : RA l G Sh M Q pc' lv (vI (iRem x y) :: st) μ) : RA l G Sh M Q pc lv (vI y :: vI x :: st) μ := by
  subst hp
  refine ra_go (st' := vI (iRem x y) :: st) (fun hos hol hm => ?_) ?_ k
  · exact List.forall_mem_cons.mpr ⟨i32_C _, fun v hv => hos v (List.mem_cons_of_mem _ (List.mem_cons_of_mem _ (hv)))⟩
  · intro p e s m args below meth c H locs ls QQ X hP hS hl hm hol hos kk
    show W p l e (rmM M) s m args below meth c H locs 0 0 QQ (F0 m pc ls (.int (Int32.ofInt (y)) :: .int (Int32.ofInt (x)) :: st.map (rv G)))
    refine lv_irem X.1 X.2.1 hd (fun h => h0 ((i32_eq (hos _ List.mem_cons_self) (by decide)).mp h)) ?_
    have kk : W p l e (rmM M) s m args below meth c H locs 0 0 QQ (F0 m (pc + 1) ls (.int (Int32.ofInt (iRem x y)) :: st.map (rv G))) := kk
    unfold iRem at kk
    rw [Int32.ofInt_toInt] at kk
    exact kk
theorem ra_ladd {l : Launch} {G : Nv} {Sh : Shp} {M : MD} {Q : Option MV → Mem → Prop} {pc pc' : Nat} {lv : List (Option MV)} {st : List MV} {μ : Mem} {x y : Int} (hd : decode M.2.1 pc = .ok (.ladd, 1)) (hp : pc + 1 = pc')  (k : RA l G Sh M Q pc' lv (vL (wL (x + y)) :: st) μ) : RA l G Sh M Q pc lv (vL y :: vL x :: st) μ := by
  subst hp
  refine ra_go (st' := vL (wL (x + y)) :: st) (fun hos hol hm => ?_) ?_ k
  · exact List.forall_mem_cons.mpr ⟨i64_C _, fun v hv => hos v (List.mem_cons_of_mem _ (List.mem_cons_of_mem _ (hv)))⟩
  · intro p e s m args below meth c H locs ls QQ X hP hS hl hm hol hos kk
    show W p l e (rmM M) s m args below meth c H locs 0 0 QQ (F0 m pc ls (.long (Int64.ofInt (y)) :: .long (Int64.ofInt (x)) :: st.map (rv G)))
    refine lv_ladd X.1 X.2.1 hd ?_
    have kk : W p l e (rmM M) s m args below meth c H locs 0 0 QQ (F0 m (pc + 1) ls (.long (Int64.ofInt (wL (x + y))) :: st.map (rv G))) := kk
    rw [ofInt_wL, Int64.ofInt_add] at kk
    exact kk
theorem ra_land {l : Launch} {G : Nv} {Sh : Shp} {M : MD} {Q : Option MV → Mem → Prop} {pc pc' : Nat} {lv : List (Option MV)} {st : List MV} {μ : Mem} {x y : Int} (hd : decode M.2.1 pc = .ok (.land, 1)) (hp : pc + 1 = pc')  (k : RA l G Sh M Q pc' lv (vL (lAnd x y) :: st) μ) : RA l G Sh M Q pc lv (vL y :: vL x :: st) μ := by
  subst hp
  refine ra_go (st' := vL (lAnd x y) :: st) (fun hos hol hm => ?_) ?_ k
  · exact List.forall_mem_cons.mpr ⟨i64_C _, fun v hv => hos v (List.mem_cons_of_mem _ (List.mem_cons_of_mem _ (hv)))⟩
  · intro p e s m args below meth c H locs ls QQ X hP hS hl hm hol hos kk
    show W p l e (rmM M) s m args below meth c H locs 0 0 QQ (F0 m pc ls (.long (Int64.ofInt (y)) :: .long (Int64.ofInt (x)) :: st.map (rv G)))
    refine lv_land X.1 X.2.1 hd ?_
    have kk : W p l e (rmM M) s m args below meth c H locs 0 0 QQ (F0 m (pc + 1) ls (.long (Int64.ofInt (lAnd x y)) :: st.map (rv G))) := kk
    unfold lAnd at kk
    rw [Int64.ofInt_toInt] at kk
    exact kk
theorem ra_lor {l : Launch} {G : Nv} {Sh : Shp} {M : MD} {Q : Option MV → Mem → Prop} {pc pc' : Nat} {lv : List (Option MV)} {st : List MV} {μ : Mem} {x y : Int} (hd : decode M.2.1 pc = .ok (.lor, 1)) (hp : pc + 1 = pc')  (k : RA l G Sh M Q pc' lv (vL (lOr x y) :: st) μ) : RA l G Sh M Q pc lv (vL y :: vL x :: st) μ := by
  subst hp
  refine ra_go (st' := vL (lOr x y) :: st) (fun hos hol hm => ?_) ?_ k
  · exact List.forall_mem_cons.mpr ⟨i64_C _, fun v hv => hos v (List.mem_cons_of_mem _ (List.mem_cons_of_mem _ (hv)))⟩
  · intro p e s m args below meth c H locs ls QQ X hP hS hl hm hol hos kk
    show W p l e (rmM M) s m args below meth c H locs 0 0 QQ (F0 m pc ls (.long (Int64.ofInt (y)) :: .long (Int64.ofInt (x)) :: st.map (rv G)))
    refine lv_lor X.1 X.2.1 hd ?_
    have kk : W p l e (rmM M) s m args below meth c H locs 0 0 QQ (F0 m (pc + 1) ls (.long (Int64.ofInt (lOr x y)) :: st.map (rv G))) := kk
    unfold lOr at kk
    rw [Int64.ofInt_toInt] at kk
    exact kk
theorem ra_lxor {l : Launch} {G : Nv} {Sh : Shp} {M : MD} {Q : Option MV → Mem → Prop} {pc pc' : Nat} {lv : List (Option MV)} {st : List MV} {μ : Mem} {x y : Int} (hd : decode M.2.1 pc = .ok (.lxor, 1)) (hp : pc + 1 = pc')  (k : RA l G Sh M Q pc' lv (vL (lXor x y) :: st) μ) : RA l G Sh M Q pc lv (vL y :: vL x :: st) μ := by
  subst hp
  refine ra_go (st' := vL (lXor x y) :: st) (fun hos hol hm => ?_) ?_ k
  · exact List.forall_mem_cons.mpr ⟨i64_C _, fun v hv => hos v (List.mem_cons_of_mem _ (List.mem_cons_of_mem _ (hv)))⟩
  · intro p e s m args below meth c H locs ls QQ X hP hS hl hm hol hos kk
    show W p l e (rmM M) s m args below meth c H locs 0 0 QQ (F0 m pc ls (.long (Int64.ofInt (y)) :: .long (Int64.ofInt (x)) :: st.map (rv G)))
    refine lv_lxor X.1 X.2.1 hd ?_
    have kk : W p l e (rmM M) s m args below meth c H locs 0 0 QQ (F0 m (pc + 1) ls (.long (Int64.ofInt (lXor x y)) :: st.map (rv G))) := kk
    unfold lXor at kk
    rw [Int64.ofInt_toInt] at kk
    exact kk
theorem ra_lshl {l : Launch} {G : Nv} {Sh : Shp} {M : MD} {Q : Option MV → Mem → Prop} {pc pc' : Nat} {lv : List (Option MV)} {st : List MV} {μ : Mem} {x y : Int} (hd : decode M.2.1 pc = .ok (.lshl, 1)) (hp : pc + 1 = pc')  (k : RA l G Sh M Q pc' lv (vL (lShl x y) :: st) μ) : RA l G Sh M Q pc lv (vI y :: vL x :: st) μ := by
  subst hp
  refine ra_go (st' := vL (lShl x y) :: st) (fun hos hol hm => ?_) ?_ k
  · exact List.forall_mem_cons.mpr ⟨i64_C _, fun v hv => hos v (List.mem_cons_of_mem _ (List.mem_cons_of_mem _ (hv)))⟩
  · intro p e s m args below meth c H locs ls QQ X hP hS hl hm hol hos kk
    show W p l e (rmM M) s m args below meth c H locs 0 0 QQ (F0 m pc ls (.int (Int32.ofInt (y)) :: .long (Int64.ofInt (x)) :: st.map (rv G)))
    refine lv_lshl X.1 X.2.1 hd (show _ = Int64.ofInt (lShl x y) by unfold lShl; rw [Int64.ofInt_toInt]) ?_
    exact kk
theorem ra_lshr {l : Launch} {G : Nv} {Sh : Shp} {M : MD} {Q : Option MV → Mem → Prop} {pc pc' : Nat} {lv : List (Option MV)} {st : List MV} {μ : Mem} {x y : Int} (hd : decode M.2.1 pc = .ok (.lshr, 1)) (hp : pc + 1 = pc')  (k : RA l G Sh M Q pc' lv (vL (lShr x y) :: st) μ) : RA l G Sh M Q pc lv (vI y :: vL x :: st) μ := by
  subst hp
  refine ra_go (st' := vL (lShr x y) :: st) (fun hos hol hm => ?_) ?_ k
  · exact List.forall_mem_cons.mpr ⟨i64_C _, fun v hv => hos v (List.mem_cons_of_mem _ (List.mem_cons_of_mem _ (hv)))⟩
  · intro p e s m args below meth c H locs ls QQ X hP hS hl hm hol hos kk
    show W p l e (rmM M) s m args below meth c H locs 0 0 QQ (F0 m pc ls (.int (Int32.ofInt (y)) :: .long (Int64.ofInt (x)) :: st.map (rv G)))
    refine lv_lshr X.1 X.2.1 hd (show _ = Int64.ofInt (lShr x y) by unfold lShr; rw [Int64.ofInt_toInt]) ?_
    exact kk
theorem ra_i2b {l : Launch} {G : Nv} {Sh : Shp} {M : MD} {Q : Option MV → Mem → Prop} {pc pc' : Nat} {lv : List (Option MV)} {st : List MV} {μ : Mem} {x : Int} (hd : decode M.2.1 pc = .ok (.i2b, 1)) (hp : pc + 1 = pc')  (k : RA l G Sh M Q pc' lv (vI (i2b x) :: st) μ) : RA l G Sh M Q pc lv (vI x :: st) μ := by
  subst hp
  refine ra_go (st' := vI (i2b x) :: st) (fun hos hol hm => ?_) ?_ k
  · exact List.forall_mem_cons.mpr ⟨i32_C _, fun v hv => hos v (List.mem_cons_of_mem _ (hv))⟩
  · intro p e s m args below meth c H locs ls QQ X hP hS hl hm hol hos kk
    show W p l e (rmM M) s m args below meth c H locs 0 0 QQ (F0 m pc ls (.int (Int32.ofInt (x)) :: st.map (rv G)))
    refine lv_i2b X.1 X.2.1 hd (show _ = Int32.ofInt (i2b x) by unfold i2b; rw [Int32.ofInt_toInt]) ?_
    exact kk
theorem ra_i2s {l : Launch} {G : Nv} {Sh : Shp} {M : MD} {Q : Option MV → Mem → Prop} {pc pc' : Nat} {lv : List (Option MV)} {st : List MV} {μ : Mem} {x : Int} (hd : decode M.2.1 pc = .ok (.i2s, 1)) (hp : pc + 1 = pc')  (k : RA l G Sh M Q pc' lv (vI (i2s x) :: st) μ) : RA l G Sh M Q pc lv (vI x :: st) μ := by
  subst hp
  refine ra_go (st' := vI (i2s x) :: st) (fun hos hol hm => ?_) ?_ k
  · exact List.forall_mem_cons.mpr ⟨i32_C _, fun v hv => hos v (List.mem_cons_of_mem _ (hv))⟩
  · intro p e s m args below meth c H locs ls QQ X hP hS hl hm hol hos kk
    show W p l e (rmM M) s m args below meth c H locs 0 0 QQ (F0 m pc ls (.int (Int32.ofInt (x)) :: st.map (rv G)))
    refine lv_i2s X.1 X.2.1 hd (show _ = Int32.ofInt (i2s x) by unfold i2s; rw [Int32.ofInt_toInt]) ?_
    exact kk
theorem ra_i2c {l : Launch} {G : Nv} {Sh : Shp} {M : MD} {Q : Option MV → Mem → Prop} {pc pc' : Nat} {lv : List (Option MV)} {st : List MV} {μ : Mem} {x : Int} (hd : decode M.2.1 pc = .ok (.i2c, 1)) (hp : pc + 1 = pc')  (k : RA l G Sh M Q pc' lv (vI (i2c x) :: st) μ) : RA l G Sh M Q pc lv (vI x :: st) μ := by
  subst hp
  refine ra_go (st' := vI (i2c x) :: st) (fun hos hol hm => ?_) ?_ k
  · exact List.forall_mem_cons.mpr ⟨i32_C _, fun v hv => hos v (List.mem_cons_of_mem _ (hv))⟩
  · intro p e s m args below meth c H locs ls QQ X hP hS hl hm hol hos kk
    show W p l e (rmM M) s m args below meth c H locs 0 0 QQ (F0 m pc ls (.int (Int32.ofInt (x)) :: st.map (rv G)))
    refine lv_i2c X.1 X.2.1 hd (show _ = Int32.ofInt (i2c x) by unfold i2c; rw [Int32.ofInt_toInt]) ?_
    exact kk
theorem ra_l2i {l : Launch} {G : Nv} {Sh : Shp} {M : MD} {Q : Option MV → Mem → Prop} {pc pc' : Nat} {lv : List (Option MV)} {st : List MV} {μ : Mem} {x : Int} (hd : decode M.2.1 pc = .ok (.l2i, 1)) (hp : pc + 1 = pc')  (k : RA l G Sh M Q pc' lv (vI (l2i x) :: st) μ) : RA l G Sh M Q pc lv (vL x :: st) μ := by
  subst hp
  refine ra_go (st' := vI (l2i x) :: st) (fun hos hol hm => ?_) ?_ k
  · exact List.forall_mem_cons.mpr ⟨i32_C _, fun v hv => hos v (List.mem_cons_of_mem _ (hv))⟩
  · intro p e s m args below meth c H locs ls QQ X hP hS hl hm hol hos kk
    show W p l e (rmM M) s m args below meth c H locs 0 0 QQ (F0 m pc ls (.long (Int64.ofInt (x)) :: st.map (rv G)))
    refine lv_l2i X.1 X.2.1 hd (show _ = Int32.ofInt (l2i x) by unfold l2i; rw [Int32.ofInt_toInt]) ?_
    exact kk
theorem ra_i2l {l : Launch} {G : Nv} {Sh : Shp} {M : MD} {Q : Option MV → Mem → Prop} {pc pc' : Nat} {lv : List (Option MV)} {st : List MV} {μ : Mem} {x : Int} (hd : decode M.2.1 pc = .ok (.i2l, 1)) (hp : pc + 1 = pc')  (k : RA l G Sh M Q pc' lv (vL x :: st) μ) : RA l G Sh M Q pc lv (vI x :: st) μ := by
  subst hp
  refine ra_go (st' := vL x :: st) (fun hos hol hm => ?_) ?_ k
  · exact List.forall_mem_cons.mpr ⟨by have hx : C32 x := hos _ List.mem_cons_self; unfold okv; omega, fun v hv => hos v (List.mem_cons_of_mem _ (hv))⟩
  · intro p e s m args below meth c H locs ls QQ X hP hS hl hm hol hos kk
    show W p l e (rmM M) s m args below meth c H locs 0 0 QQ (F0 m pc ls (.int (Int32.ofInt (x)) :: st.map (rv G)))
    refine lv_i2l X.1 X.2.1 hd (show _ = Int64.ofInt x by have hx : C32 x := hos _ List.mem_cons_self; rw [← Int64.toInt_inj, i64_toInt (by omega), Int32.toInt_toInt64, i32_toInt hx]) ?_
    have hx : C32 x := hos _ List.mem_cons_self
    exact kk
theorem ra_lcmp {l : Launch} {G : Nv} {Sh : Shp} {M : MD} {Q : Option MV → Mem → Prop} {pc pc' : Nat} {lv : List (Option MV)} {st : List MV} {μ : Mem} {x y : Int} (hd : decode M.2.1 pc = .ok (.lcmp, 1)) (hp : pc + 1 = pc')  (k : RA l G Sh M Q pc' lv (vI (lCmp x y) :: st) μ) : RA l G Sh M Q pc lv (vL y :: vL x :: st) μ := by
  subst hp
  refine ra_go (st' := vI (lCmp x y) :: st) (fun hos hol hm => ?_) ?_ k
  · exact List.forall_mem_cons.mpr ⟨lCmp_C x y, fun v hv => hos v (List.mem_cons_of_mem _ (List.mem_cons_of_mem _ (hv)))⟩
  · intro p e s m args below meth c H locs ls QQ X hP hS hl hm hol hos kk
    show W p l e (rmM M) s m args below meth c H locs 0 0 QQ (F0 m pc ls (.long (Int64.ofInt (y)) :: .long (Int64.ofInt (x)) :: st.map (rv G)))
    refine W.lcmp X.1 X.2.1 hd ?_
    have hy : C64 y := hos _ List.mem_cons_self
    have hx : C64 x := hos _ (List.mem_cons_of_mem _ List.mem_cons_self)
    have kk : W p l e (rmM M) s m args below meth c H locs 0 0 QQ (F0 m (pc + 1) ls (.int (Int32.ofInt (lCmp x y)) :: st.map (rv G))) := kk
    rw [show lg_cmp (Int64.ofInt x) (Int64.ofInt y) = Int32.ofInt (lCmp x y) by
      unfold lg_cmp lCmp
      simp only [gt_iff_lt, i64_lt hy hx, i64_eq hx hy]
      split
      · rfl
      · split <;> rfl]
    exact kk
