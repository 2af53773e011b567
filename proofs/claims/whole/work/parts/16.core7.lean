def SR {β : Type} (l : Launch) (G : Nv) (Sh : Shp) (M : MD) (o : Option β) (J : β → Option MV × Mem) (pc : Nat) (lv : List (Option MV)) (st : List MV) (μ : Mem) : Prop := ∀ b, o = some b → RA l G Sh M (fun r μ' => (r, μ') = J b) pc lv st μ
def bnd {α β : Type} (x : α) (f : α → β) : β := f x
def ld (μ : Mem) (a n : Nat) (i : Int) : Option Int := if 0 ≤ i ∧ i < n then some (μ a i.toNat) else none
def stx (μ : Mem) (a n : Nat) (i x : Int) : Option Mem := if 0 ≤ i ∧ i < n then some (mset μ a i.toNat x) else none
def BIG : Nat := 18446744073709551616
def jI (μ : Mem) : Int → Option MV × Mem := fun x => (some (vI x), μ)
def jL (μ : Mem) : Int → Option MV × Mem := fun x => (some (vL x), μ)
def jR (μ : Mem) : Nat → Option MV × Mem := fun x => (some (vR x), μ)
def jU (μ : Mem) : Unit → Option MV × Mem := fun _ => (none, μ)
def jIM : Int × Mem → Option MV × Mem := fun x => (some (vI x.1), x.2)
def jM : Mem → Option MV × Mem := fun x => (none, x)
theorem sr_none {l : Launch} {G : Nv} {Sh : Shp} {M : MD} {β : Type} {J : β → Option MV × Mem} {pc : Nat} {lv : List (Option MV)} {st : List MV} {μ : Mem} : SR l G Sh M none J pc lv st μ := fun _ h => by cases h
theorem sr_iconst {l : Launch} {G : Nv} {Sh : Shp} {M : MD} {β : Type} {o : Option β} {J : β → Option MV × Mem} {pc pc' : Nat} {lv : List (Option MV)} {st : List MV} {μ : Mem} {n : Int} (hd : decode M.2.1 pc = .ok (.iconst n, 1)) (hp : pc + 1 = pc') (hC : C32 n) (k : SR l G Sh M o J pc' lv (vI n :: st) μ) : SR l G Sh M o J pc lv (st) μ := fun b hb => ra_iconst hd hp hC (k b hb)
theorem sr_bipush {l : Launch} {G : Nv} {Sh : Shp} {M : MD} {β : Type} {o : Option β} {J : β → Option MV × Mem} {pc pc' : Nat} {lv : List (Option MV)} {st : List MV} {μ : Mem} {n : Int} (hd : decode M.2.1 pc = .ok (.bipush n, 2)) (hp : pc + 2 = pc') (hC : C32 n) (hv : (Int8.ofInt n).toInt32 = Int32.ofInt n) (k : SR l G Sh M o J pc' lv (vI n :: st) μ) : SR l G Sh M o J pc lv (st) μ := fun b hb => ra_bipush hd hp hC hv (k b hb)
theorem sr_sipush {l : Launch} {G : Nv} {Sh : Shp} {M : MD} {β : Type} {o : Option β} {J : β → Option MV × Mem} {pc pc' : Nat} {lv : List (Option MV)} {st : List MV} {μ : Mem} {n : Int} (hd : decode M.2.1 pc = .ok (.sipush n, 3)) (hp : pc + 3 = pc') (hC : C32 n) (hv : (Int16.ofInt n).toInt32 = Int32.ofInt n) (k : SR l G Sh M o J pc' lv (vI n :: st) μ) : SR l G Sh M o J pc lv (st) μ := fun b hb => ra_sipush hd hp hC hv (k b hb)
theorem sr_lconst {l : Launch} {G : Nv} {Sh : Shp} {M : MD} {β : Type} {o : Option β} {J : β → Option MV × Mem} {pc pc' : Nat} {lv : List (Option MV)} {st : List MV} {μ : Mem} {n : Fin 2} {x : Int} (hd : decode M.2.1 pc = .ok (.lconst n, 1)) (hp : pc + 1 = pc') (hC : C64 x) (hv : Int64.ofNat (n : Nat) = Int64.ofInt x) (k : SR l G Sh M o J pc' lv (vL x :: st) μ) : SR l G Sh M o J pc lv (st) μ := fun b hb => ra_lconst hd hp hC hv (k b hb)
theorem sr_ldc {l : Launch} {G : Nv} {Sh : Shp} {M : MD} {β : Type} {o : Option β} {J : β → Option MV × Mem} {pc pc' : Nat} {lv : List (Option MV)} {st : List MV} {μ : Mem} {i : Nat} {x : Int} (hd : decode M.2.1 pc = .ok (.ldc i, 2)) (hp : pc + 2 = pc') (hC : C32 x) (hw : Cond.constant M.1.cls i (Int32.ofInt x) ∈ TBL) (k : SR l G Sh M o J pc' lv (vI x :: st) μ) : SR l G Sh M o J pc lv (st) μ := fun b hb => ra_ldc hd hp hC hw (k b hb)
theorem sr_ldcw {l : Launch} {G : Nv} {Sh : Shp} {M : MD} {β : Type} {o : Option β} {J : β → Option MV × Mem} {pc pc' : Nat} {lv : List (Option MV)} {st : List MV} {μ : Mem} {i : Nat} {x : Int} (hd : decode M.2.1 pc = .ok (.ldc_w i, 3)) (hp : pc + 3 = pc') (hC : C32 x) (hw : Cond.constant M.1.cls i (Int32.ofInt x) ∈ TBL) (k : SR l G Sh M o J pc' lv (vI x :: st) μ) : SR l G Sh M o J pc lv (st) μ := fun b hb => ra_ldcw hd hp hC hw (k b hb)
theorem sr_ldc2 {l : Launch} {G : Nv} {Sh : Shp} {M : MD} {β : Type} {o : Option β} {J : β → Option MV × Mem} {pc pc' : Nat} {lv : List (Option MV)} {st : List MV} {μ : Mem} {i : Nat} {x : Int} (hd : decode M.2.1 pc = .ok (.ldc2_w i, 3)) (hp : pc + 3 = pc') (hC : C64 x) (hw : Cond.constantLong M.1.cls i (Int64.ofInt x) ∈ TBL) (k : SR l G Sh M o J pc' lv (vL x :: st) μ) : SR l G Sh M o J pc lv (st) μ := fun b hb => ra_ldc2 hd hp hC hw (k b hb)
theorem sr_iload_n {l : Launch} {G : Nv} {Sh : Shp} {M : MD} {β : Type} {o : Option β} {J : β → Option MV × Mem} {pc pc' : Nat} {lv : List (Option MV)} {st : List MV} {μ : Mem} {j : Fin 4} {i : Nat} {x : Int} (hd : decode M.2.1 pc = .ok (.iload_n j, 1)) (hp : pc + 1 = pc') (hj : (j : Nat) = i) (hg : lv[i]? = some (some (vI x))) (k : SR l G Sh M o J pc' lv (vI x :: st) μ) : SR l G Sh M o J pc lv (st) μ := fun b hb => ra_iload_n hd hp hj hg (k b hb)
theorem sr_iload {l : Launch} {G : Nv} {Sh : Shp} {M : MD} {β : Type} {o : Option β} {J : β → Option MV × Mem} {pc pc' : Nat} {lv : List (Option MV)} {st : List MV} {μ : Mem} {i : Nat} {x : Int} (hd : decode M.2.1 pc = .ok (.iload i, 2)) (hp : pc + 2 = pc') (hg : lv[i]? = some (some (vI x))) (k : SR l G Sh M o J pc' lv (vI x :: st) μ) : SR l G Sh M o J pc lv (st) μ := fun b hb => ra_iload hd hp hg (k b hb)
theorem sr_lload_n {l : Launch} {G : Nv} {Sh : Shp} {M : MD} {β : Type} {o : Option β} {J : β → Option MV × Mem} {pc pc' : Nat} {lv : List (Option MV)} {st : List MV} {μ : Mem} {j : Fin 4} {i : Nat} {x : Int} (hd : decode M.2.1 pc = .ok (.lload_n j, 1)) (hp : pc + 1 = pc') (hj : (j : Nat) = i) (hg : lv[i]? = some (some (vL x))) (k : SR l G Sh M o J pc' lv (vL x :: st) μ) : SR l G Sh M o J pc lv (st) μ := fun b hb => ra_lload_n hd hp hj hg (k b hb)
theorem sr_lload {l : Launch} {G : Nv} {Sh : Shp} {M : MD} {β : Type} {o : Option β} {J : β → Option MV × Mem} {pc pc' : Nat} {lv : List (Option MV)} {st : List MV} {μ : Mem} {i : Nat} {x : Int} (hd : decode M.2.1 pc = .ok (.lload i, 2)) (hp : pc + 2 = pc') (hg : lv[i]? = some (some (vL x))) (k : SR l G Sh M o J pc' lv (vL x :: st) μ) : SR l G Sh M o J pc lv (st) μ := fun b hb => ra_lload hd hp hg (k b hb)
theorem sr_aload_n {l : Launch} {G : Nv} {Sh : Shp} {M : MD} {β : Type} {o : Option β} {J : β → Option MV × Mem} {pc pc' : Nat} {lv : List (Option MV)} {st : List MV} {μ : Mem} {j : Fin 4} {i : Nat} {x : Nat} (hd : decode M.2.1 pc = .ok (.aload_n j, 1)) (hp : pc + 1 = pc') (hj : (j : Nat) = i) (hg : lv[i]? = some (some (vR x))) (k : SR l G Sh M o J pc' lv (vR x :: st) μ) : SR l G Sh M o J pc lv (st) μ := fun b hb => ra_aload_n hd hp hj hg (k b hb)
theorem sr_dup {l : Launch} {G : Nv} {Sh : Shp} {M : MD} {β : Type} {o : Option β} {J : β → Option MV × Mem} {pc pc' : Nat} {lv : List (Option MV)} {st : List MV} {μ : Mem} {v : MV} (hd : decode M.2.1 pc = .ok (.dup, 1)) (hp : pc + 1 = pc') (hc : catv v = 1) (k : SR l G Sh M o J pc' lv (v :: v :: st) μ) : SR l G Sh M o J pc lv (v :: st) μ := fun b hb => ra_dup hd hp hc (k b hb)
theorem sr_pop {l : Launch} {G : Nv} {Sh : Shp} {M : MD} {β : Type} {o : Option β} {J : β → Option MV × Mem} {pc pc' : Nat} {lv : List (Option MV)} {st : List MV} {μ : Mem} {v : MV} (hd : decode M.2.1 pc = .ok (.pop, 1)) (hp : pc + 1 = pc') (hc : catv v = 1) (k : SR l G Sh M o J pc' lv st μ) : SR l G Sh M o J pc lv (v :: st) μ := fun b hb => ra_pop hd hp hc (k b hb)
theorem sr_dup2 {l : Launch} {G : Nv} {Sh : Shp} {M : MD} {β : Type} {o : Option β} {J : β → Option MV × Mem} {pc pc' : Nat} {lv : List (Option MV)} {st : List MV} {μ : Mem} {v w : MV} (hd : decode M.2.1 pc = .ok (.dup2, 1)) (hp : pc + 1 = pc') (hc : catv v = 1) (hw : catv w = 1) (k : SR l G Sh M o J pc' lv (v :: w :: v :: w :: st) μ) : SR l G Sh M o J pc lv (v :: w :: st) μ := fun b hb => ra_dup2 hd hp hc hw (k b hb)
theorem sr_iadd {l : Launch} {G : Nv} {Sh : Shp} {M : MD} {β : Type} {o : Option β} {J : β → Option MV × Mem} {pc pc' : Nat} {lv : List (Option MV)} {st : List MV} {μ : Mem} {x y : Int} (hd : decode M.2.1 pc = .ok (.iadd, 1)) (hp : pc + 1 = pc') (k : SR l G Sh M o J pc' lv (vI (wI (x + y)) :: st) μ) : SR l G Sh M o J pc lv (vI y :: vI x :: st) μ := fun b hb => ra_iadd hd hp (k b hb)
theorem sr_isub {l : Launch} {G : Nv} {Sh : Shp} {M : MD} {β : Type} {o : Option β} {J : β → Option MV × Mem} {pc pc' : Nat} {lv : List (Option MV)} {st : List MV} {μ : Mem} {x y : Int} (hd : decode M.2.1 pc = .ok (.isub, 1)) (hp : pc + 1 = pc') (k : SR l G Sh M o J pc' lv (vI (wI (x - y)) :: st) μ) : SR l G Sh M o J pc lv (vI y :: vI x :: st) μ := fun b hb => ra_isub hd hp (k b hb)
theorem sr_imul {l : Launch} {G : Nv} {Sh : Shp} {M : MD} {β : Type} {o : Option β} {J : β → Option MV × Mem} {pc pc' : Nat} {lv : List (Option MV)} {st : List MV} {μ : Mem} {x y : Int} (hd : decode M.2.1 pc = .ok (.imul, 1)) (hp : pc + 1 = pc') (k : SR l G Sh M o J pc' lv (vI (wI (x * y)) :: st) μ) : SR l G Sh M o J pc lv (vI y :: vI x :: st) μ := fun b hb => ra_imul hd hp (k b hb)
theorem sr_ishl {l : Launch} {G : Nv} {Sh : Shp} {M : MD} {β : Type} {o : Option β} {J : β → Option MV × Mem} {pc pc' : Nat} {lv : List (Option MV)} {st : List MV} {μ : Mem} {x y : Int} (hd : decode M.2.1 pc = .ok (.ishl, 1)) (hp : pc + 1 = pc') (k : SR l G Sh M o J pc' lv (vI (iShl x y) :: st) μ) : SR l G Sh M o J pc lv (vI y :: vI x :: st) μ := fun b hb => ra_ishl hd hp (k b hb)
theorem sr_ishr {l : Launch} {G : Nv} {Sh : Shp} {M : MD} {β : Type} {o : Option β} {J : β → Option MV × Mem} {pc pc' : Nat} {lv : List (Option MV)} {st : List MV} {μ : Mem} {x y : Int} (hd : decode M.2.1 pc = .ok (.ishr, 1)) (hp : pc + 1 = pc') (k : SR l G Sh M o J pc' lv (vI (iShr x y) :: st) μ) : SR l G Sh M o J pc lv (vI y :: vI x :: st) μ := fun b hb => ra_ishr hd hp (k b hb)
theorem sr_iand {l : Launch} {G : Nv} {Sh : Shp} {M : MD} {β : Type} {o : Option β} {J : β → Option MV × Mem} {pc pc' : Nat} {lv : List (Option MV)} {st : List MV} {μ : Mem} {x y : Int} (hd : decode M.2.1 pc = .ok (.iand, 1)) (hp : pc + 1 = pc') (k : SR l G Sh M o J pc' lv (vI (iAnd x y) :: st) μ) : SR l G Sh M o J pc lv (vI y :: vI x :: st) μ := fun b hb => ra_iand hd hp (k b hb)
theorem sr_ior {l : Launch} {G : Nv} {Sh : Shp} {M : MD} {β : Type} {o : Option β} {J : β → Option MV × Mem} {pc pc' : Nat} {lv : List (Option MV)} {st : List MV} {μ : Mem} {x y : Int} (hd : decode M.2.1 pc = .ok (.ior, 1)) (hp : pc + 1 = pc') (k : SR l G Sh M o J pc' lv (vI (iOr x y) :: st) μ) : SR l G Sh M o J pc lv (vI y :: vI x :: st) μ := fun b hb => ra_ior hd hp (k b hb)
theorem sr_iushr {l : Launch} {G : Nv} {Sh : Shp} {M : MD} {β : Type} {o : Option β} {J : β → Option MV × Mem} {pc pc' : Nat} {lv : List (Option MV)} {st : List MV} {μ : Mem} {x y : Int} (hd : decode M.2.1 pc = .ok (.iushr, 1)) (hp : pc + 1 = pc') (k : SR l G Sh M o J pc' lv (vI (iUshr x y) :: st) μ) : SR l G Sh M o J pc lv (vI y :: vI x :: st) μ := fun b hb => ra_iushr hd hp (k b hb)
theorem sr_idiv {l : Launch} {G : Nv} {Sh : Shp} {M : MD} {β : Type} {o : Option β} {J : β → Option MV × Mem} {pc pc' : Nat} {lv : List (Option MV)} {st : List MV} {μ : Mem} {x y : Int} (hd : decode M.2.1 pc = .ok (.idiv, 1)) (hp : pc + 1 = pc') (h0 : ¬ y = 0) (k : SR l G Sh M o J pc' lv (vI (iDiv x y) :: st) μ) : SR l G Sh M o J pc lv (vI y :: vI x :: st) μ := fun b hb => ra_idiv hd hp h0 (k b hb)
theorem sr_irem {l : Launch} {G : Nv} {Sh : Shp} {M : MD} {β : Type} {o : Option β} {J : β → Option MV × Mem} {pc pc' : Nat} {lv : List (Option MV)} {st : List MV} {μ : Mem} {x y : Int} (hd : decode M.2.1 pc = .ok (.irem, 1)) (hp : pc + 1 = pc') (h0 : ¬ y = 0) (k : SR l G Sh M o J pc' lv (vI (iRem x y) :: st) μ) : SR l G Sh M o J pc lv (vI y :: vI x :: st) μ := fun b hb => ra_irem hd hp h0 (k b hb)
theorem sr_ladd {l : Launch} {G : Nv} {Sh : Shp} {M : MD} {β : Type} {o : Option β} {J : β → Option MV × Mem} {pc pc' : Nat} {lv : List (Option MV)} {st : List MV} {μ : Mem} {x y : Int} (hd : decode M.2.1 pc = .ok (.ladd, 1)) (hp : pc + 1 = pc') (k : SR l G Sh M o J pc' lv (vL (wL (x + y)) :: st) μ) : SR l G Sh M o J pc lv (vL y :: vL x :: st) μ := fun b hb => ra_ladd hd hp (k b hb)
theorem sr_land {l : Launch} {G : Nv} {Sh : Shp} {M : MD} {β : Type} {o : Option β} {J : β → Option MV × Mem} {pc pc' : Nat} {lv : List (Option MV)} {st : List MV} {μ : Mem} {x y : Int} (hd : decode M.2.1 pc = .ok (.land, 1)) (hp : pc + 1 = pc') (k : SR l G Sh M o J pc' lv (vL (lAnd x y) :: st) μ) : SR l G Sh M o J pc lv (vL y :: vL x :: st) μ := fun b hb => ra_land hd hp (k b hb)
theorem sr_lor {l : Launch} {G : Nv} {Sh : Shp} {M : MD} {β : Type} {o : Option β} {J : β → Option MV × Mem} {pc pc' : Nat} {lv : List (Option MV)} {st : List MV} {μ : Mem} {x y : Int} (hd : decode M.2.1 pc = .ok (.lor, 1)) (hp : pc + 1 = pc') (k : SR l G Sh M o J pc' lv (vL (lOr x y) :: st) μ) : SR l G Sh M o J pc lv (vL y :: vL x :: st) μ := fun b hb => ra_lor hd hp (k b hb)
theorem sr_lxor {l : Launch} {G : Nv} {Sh : Shp} {M : MD} {β : Type} {o : Option β} {J : β → Option MV × Mem} {pc pc' : Nat} {lv : List (Option MV)} {st : List MV} {μ : Mem} {x y : Int} (hd : decode M.2.1 pc = .ok (.lxor, 1)) (hp : pc + 1 = pc') (k : SR l G Sh M o J pc' lv (vL (lXor x y) :: st) μ) : SR l G Sh M o J pc lv (vL y :: vL x :: st) μ := fun b hb => ra_lxor hd hp (k b hb)
theorem sr_lshl {l : Launch} {G : Nv} {Sh : Shp} {M : MD} {β : Type} {o : Option β} {J : β → Option MV × Mem} {pc pc' : Nat} {lv : List (Option MV)} {st : List MV} {μ : Mem} {x y : Int} (hd : decode M.2.1 pc = .ok (.lshl, 1)) (hp : pc + 1 = pc') (k : SR l G Sh M o J pc' lv (vL (lShl x y) :: st) μ) : SR l G Sh M o J pc lv (vI y :: vL x :: st) μ := fun b hb => ra_lshl hd hp (k b hb)
theorem sr_lshr {l : Launch} {G : Nv} {Sh : Shp} {M : MD} {β : Type} {o : Option β} {J : β → Option MV × Mem} {pc pc' : Nat} {lv : List (Option MV)} {st : List MV} {μ : Mem} {x y : Int} (hd : decode M.2.1 pc = .ok (.lshr, 1)) (hp : pc + 1 = pc') (k : SR l G Sh M o J pc' lv (vL (lShr x y) :: st) μ) : SR l G Sh M o J pc lv (vI y :: vL x :: st) μ := fun b hb => ra_lshr hd hp (k b hb)
theorem sr_i2b {l : Launch} {G : Nv} {Sh : Shp} {M : MD} {β : Type} {o : Option β} {J : β → Option MV × Mem} {pc pc' : Nat} {lv : List (Option MV)} {st : List MV} {μ : Mem} {x : Int} (hd : decode M.2.1 pc = .ok (.i2b, 1)) (hp : pc + 1 = pc') (k : SR l G Sh M o J pc' lv (vI (i2b x) :: st) μ) : SR l G Sh M o J pc lv (vI x :: st) μ := fun b hb => ra_i2b hd hp (k b hb)
theorem sr_i2s {l : Launch} {G : Nv} {Sh : Shp} {M : MD} {β : Type} {o : Option β} {J : β → Option MV × Mem} {pc pc' : Nat} {lv : List (Option MV)} {st : List MV} {μ : Mem} {x : Int} (hd : decode M.2.1 pc = .ok (.i2s, 1)) (hp : pc + 1 = pc') (k : SR l G Sh M o J pc' lv (vI (i2s x) :: st) μ) : SR l G Sh M o J pc lv (vI x :: st) μ := fun b hb => ra_i2s hd hp (k b hb)
theorem sr_i2c {l : Launch} {G : Nv} {Sh : Shp} {M : MD} {β : Type} {o : Option β} {J : β → Option MV × Mem} {pc pc' : Nat} {lv : List (Option MV)} {st : List MV} {μ : Mem} {x : Int} (hd : decode M.2.1 pc = .ok (.i2c, 1)) (hp : pc + 1 = pc') (k : SR l G Sh M o J pc' lv (vI (i2c x) :: st) μ) : SR l G Sh M o J pc lv (vI x :: st) μ := fun b hb => ra_i2c hd hp (k b hb)
theorem sr_l2i {l : Launch} {G : Nv} {Sh : Shp} {M : MD} {β : Type} {o : Option β} {J : β → Option MV × Mem} {pc pc' : Nat} {lv : List (Option MV)} {st : List MV} {μ : Mem} {x : Int} (hd : decode M.2.1 pc = .ok (.l2i, 1)) (hp : pc + 1 = pc') (k : SR l G Sh M o J pc' lv (vI (l2i x) :: st) μ) : SR l G Sh M o J pc lv (vL x :: st) μ := fun b hb => ra_l2i hd hp (k b hb)
theorem sr_i2l {l : Launch} {G : Nv} {Sh : Shp} {M : MD} {β : Type} {o : Option β} {J : β → Option MV × Mem} {pc pc' : Nat} {lv : List (Option MV)} {st : List MV} {μ : Mem} {x : Int} (hd : decode M.2.1 pc = .ok (.i2l, 1)) (hp : pc + 1 = pc') (k : SR l G Sh M o J pc' lv (vL x :: st) μ) : SR l G Sh M o J pc lv (vI x :: st) μ := fun b hb => ra_i2l hd hp (k b hb)
theorem sr_lcmp {l : Launch} {G : Nv} {Sh : Shp} {M : MD} {β : Type} {o : Option β} {J : β → Option MV × Mem} {pc pc' : Nat} {lv : List (Option MV)} {st : List MV} {μ : Mem} {x y : Int} (hd : decode M.2.1 pc = .ok (.lcmp, 1)) (hp : pc + 1 = pc') (k : SR l G Sh M o J pc' lv (vI (lCmp x y) :: st) μ) : SR l G Sh M o J pc lv (vL y :: vL x :: st) μ := fun b hb => ra_lcmp hd hp (k b hb)
theorem sr_istore_n {l : Launch} {G : Nv} {Sh : Shp} {M : MD} {β : Type} {o : Option β} {J : β → Option MV × Mem} {pc pc' : Nat} {lv lv' : List (Option MV)} {st : List MV} {μ : Mem} {j : Fin 4} {i : Nat} {x : Int} (hd : decode M.2.1 pc = .ok (.istore_n j, 1)) (hp : pc + 1 = pc') (hj : (j : Nat) = i) (hi : i < M.2.2.1) (he : lvset1 lv i (vI x) = lv') (k : SR l G Sh M o J pc' lv' st μ) : SR l G Sh M o J pc lv (vI x :: st) μ := fun b hb => ra_istore_n hd hp hj hi he (k b hb)
theorem sr_istore {l : Launch} {G : Nv} {Sh : Shp} {M : MD} {β : Type} {o : Option β} {J : β → Option MV × Mem} {pc pc' : Nat} {lv lv' : List (Option MV)} {st : List MV} {μ : Mem} {i : Nat} {x : Int} (hd : decode M.2.1 pc = .ok (.istore i, 2)) (hp : pc + 2 = pc') (hi : i < M.2.2.1) (he : lvset1 lv i (vI x) = lv') (k : SR l G Sh M o J pc' lv' st μ) : SR l G Sh M o J pc lv (vI x :: st) μ := fun b hb => ra_istore hd hp hi he (k b hb)
theorem sr_astore_n {l : Launch} {G : Nv} {Sh : Shp} {M : MD} {β : Type} {o : Option β} {J : β → Option MV × Mem} {pc pc' : Nat} {lv lv' : List (Option MV)} {st : List MV} {μ : Mem} {j : Fin 4} {i : Nat} {x : Nat} (hd : decode M.2.1 pc = .ok (.astore_n j, 1)) (hp : pc + 1 = pc') (hj : (j : Nat) = i) (hi : i < M.2.2.1) (he : lvset1 lv i (vR x) = lv') (k : SR l G Sh M o J pc' lv' st μ) : SR l G Sh M o J pc lv (vR x :: st) μ := fun b hb => ra_astore_n hd hp hj hi he (k b hb)
theorem sr_lstore_n {l : Launch} {G : Nv} {Sh : Shp} {M : MD} {β : Type} {o : Option β} {J : β → Option MV × Mem} {pc pc' : Nat} {lv lv' : List (Option MV)} {st : List MV} {μ : Mem} {j : Fin 4} {i : Nat} {x : Int} (hd : decode M.2.1 pc = .ok (.lstore_n j, 1)) (hp : pc + 1 = pc') (hj : (j : Nat) = i) (hi : i + 1 < M.2.2.1) (he : lvset2 lv i (vL x) = lv') (k : SR l G Sh M o J pc' lv' st μ) : SR l G Sh M o J pc lv (vL x :: st) μ := fun b hb => ra_lstore_n hd hp hj hi he (k b hb)
theorem sr_lstore {l : Launch} {G : Nv} {Sh : Shp} {M : MD} {β : Type} {o : Option β} {J : β → Option MV × Mem} {pc pc' : Nat} {lv lv' : List (Option MV)} {st : List MV} {μ : Mem} {i : Nat} {x : Int} (hd : decode M.2.1 pc = .ok (.lstore i, 2)) (hp : pc + 2 = pc') (hi : i + 1 < M.2.2.1) (he : lvset2 lv i (vL x) = lv') (k : SR l G Sh M o J pc' lv' st μ) : SR l G Sh M o J pc lv (vL x :: st) μ := fun b hb => ra_lstore hd hp hi he (k b hb)
theorem sr_iinc {l : Launch} {G : Nv} {Sh : Shp} {M : MD} {β : Type} {o : Option β} {J : β → Option MV × Mem} {pc pc' : Nat} {lv lv' : List (Option MV)} {st : List MV} {μ : Mem} {i : Nat} {n x : Int} (hd : decode M.2.1 pc = .ok (.iinc i n, 3)) (hp : pc + 3 = pc') (hi : i < M.2.2.1) (hg : lv[i]? = some (some (vI x))) (he : lvset1 lv i (vI (wI (x + n))) = lv') (k : SR l G Sh M o J pc' lv' st μ) : SR l G Sh M o J pc lv st μ := fun b hb => ra_iinc hd hp hi hg he (k b hb)
theorem sr_fgt {l : Launch} {G : Nv} {Sh : Shp} {M : MD} {β : Type} {o : Option β} {J : β → Option MV × Mem} {pc : Nat} {lv lv' : List (Option MV)} {st : List MV} {μ : Mem} (h : fgt lv' lv) (k : SR l G Sh M o J pc lv' st μ) : SR l G Sh M o J pc lv st μ := fun b hb => ra_fgt h (k b hb)
theorem sr_goto {l : Launch} {G : Nv} {Sh : Shp} {M : MD} {β : Type} {o : Option β} {J : β → Option MV × Mem} {pc pc' : Nat} {lv : List (Option MV)} {st : List MV} {μ : Mem} {off : Int} (hd : decode M.2.1 pc = .ok (.goto off, 3)) (ht : (pc : Int) + off = (pc' : Int)) (k : SR l G Sh M o J pc' lv st μ) : SR l G Sh M o J pc lv st μ := fun b hb => ra_goto hd ht (k b hb)
theorem sr_swIn {l : Launch} {G : Nv} {Sh : Shp} {M : MD} {β : Type} {o : Option β} {J : β → Option MV × Mem} {pc : Nat} {lv : List (Option MV)} {st : List MV} {μ : Mem} {dflt lo hi x off : Int} {offs : Array Int} {len tgt j : Nat} (hd : decode M.2.1 pc = .ok (.tableswitch dflt lo hi offs, len)) (hx : x = lo + j) (hj : lo + j ≤ hi) (ho : offs[j]? = some off) (ht : (pc : Int) + off = (tgt : Int)) (k : SR l G Sh M o J tgt lv st μ) : SR l G Sh M o J pc lv (vI x :: st) μ := fun b hb => ra_swIn hd hx hj ho ht (k b hb)
theorem sr_swOut {l : Launch} {G : Nv} {Sh : Shp} {M : MD} {β : Type} {o : Option β} {J : β → Option MV × Mem} {pc : Nat} {lv : List (Option MV)} {st : List MV} {μ : Mem} {dflt lo hi x : Int} {offs : Array Int} {len tgt : Nat} (ks : List Nat) (hd : decode M.2.1 pc = .ok (.tableswitch dflt lo hi offs, len)) (hx : ∀ j ∈ ks, ¬ x = lo + (j : Int)) (hj : ∀ j, j < (hi - lo + 1).toNat → j ∈ ks ∨ offs[j]? = some dflt) (ht : (pc : Int) + dflt = (tgt : Int)) (k : SR l G Sh M o J tgt lv st μ) : SR l G Sh M o J pc lv (vI x :: st) μ := fun b hb => ra_swOut ks hd hx hj ht (k b hb)
theorem sr_getI {l : Launch} {G : Nv} {Sh : Shp} {M : MD} {β : Type} {o : Option β} {J : β → Option MV × Mem} {pc pc' : Nat} {lv : List (Option MV)} {st : List MV} {μ : Mem} {ci idx k a N : Nat} {C : String} {T : u_T} {ty : Nat → FieldType} {slots : List Nat} (hc : ClsOK ci C T N ty) (hd : decode M.2.1 pc = .ok (.getfield idx, 3)) (hp : pc + 3 = pc') (he : Sh[a]? = some (ci + 3, 0, slots)) (hs : slots[k]? = some 0) (hk : k < N) (hw : Cond.fieldLink M.1.cls idx C (T k).2.1 (T k).2.2.1 ∈ TBL) (kk : SR l G Sh M o J pc' lv (vI (μ a k) :: st) μ) : SR l G Sh M o J pc lv (vR a :: st) μ := fun b hb => ra_getI hc hd hp he hs hk hw (kk b hb)
theorem sr_getZ {l : Launch} {G : Nv} {Sh : Shp} {M : MD} {β : Type} {o : Option β} {J : β → Option MV × Mem} {pc pc' : Nat} {lv : List (Option MV)} {st : List MV} {μ : Mem} {ci idx k a N : Nat} {C : String} {T : u_T} {ty : Nat → FieldType} {slots : List Nat} (hc : ClsOK ci C T N ty) (hd : decode M.2.1 pc = .ok (.getfield idx, 3)) (hp : pc + 3 = pc') (he : Sh[a]? = some (ci + 3, 0, slots)) (hs : slots[k]? = some 2) (hk : k < N) (hw : Cond.fieldLink M.1.cls idx C (T k).2.1 (T k).2.2.1 ∈ TBL) (kk : SR l G Sh M o J pc' lv (vI (μ a k) :: st) μ) : SR l G Sh M o J pc lv (vR a :: st) μ := fun b hb => ra_getZ hc hd hp he hs hk hw (kk b hb)
theorem sr_getL {l : Launch} {G : Nv} {Sh : Shp} {M : MD} {β : Type} {o : Option β} {J : β → Option MV × Mem} {pc pc' : Nat} {lv : List (Option MV)} {st : List MV} {μ : Mem} {ci idx k a N : Nat} {C : String} {T : u_T} {ty : Nat → FieldType} {slots : List Nat} (hc : ClsOK ci C T N ty) (hd : decode M.2.1 pc = .ok (.getfield idx, 3)) (hp : pc + 3 = pc') (he : Sh[a]? = some (ci + 3, 0, slots)) (hs : slots[k]? = some 1) (hk : k < N) (hw : Cond.fieldLink M.1.cls idx C (T k).2.1 (T k).2.2.1 ∈ TBL) (kk : SR l G Sh M o J pc' lv (vL (μ a k) :: st) μ) : SR l G Sh M o J pc lv (vR a :: st) μ := fun b hb => ra_getL hc hd hp he hs hk hw (kk b hb)
theorem sr_getR {l : Launch} {G : Nv} {Sh : Shp} {M : MD} {β : Type} {o : Option β} {J : β → Option MV × Mem} {pc pc' : Nat} {lv : List (Option MV)} {st : List MV} {μ : Mem} {ci idx k a N b : Nat} {C : String} {T : u_T} {ty : Nat → FieldType} {slots : List Nat} (hc : ClsOK ci C T N ty) (hd : decode M.2.1 pc = .ok (.getfield idx, 3)) (hp : pc + 3 = pc') (he : Sh[a]? = some (ci + 3, 0, slots)) (hs : slots[k]? = some (b + 3)) (hk : k < N) (hw : Cond.fieldLink M.1.cls idx C (T k).2.1 (T k).2.2.1 ∈ TBL) (kk : SR l G Sh M o J pc' lv (vR b :: st) μ) : SR l G Sh M o J pc lv (vR a :: st) μ := fun b hb => ra_getR hc hd hp he hs hk hw (kk b hb)
theorem sr_getIN {l : Launch} {G : Nv} {Sh : Shp} {M : MD} {β : Type} {o : Option β} {J : β → Option MV × Mem} {pc pc' : Nat} {lv : List (Option MV)} {st : List MV} {μ : Mem} {ci idx k a N : Nat} {C : String} {T : u_T} {ty : Nat → FieldType} {slots : List Nat} {host : String} (hc : ClsOK ci C T N ty) (hd : decode M.2.1 pc = .ok (.getfield idx, 3)) (hp : pc + 3 = pc') (he : Sh[a]? = some (ci + 3, 0, slots)) (hs : slots[k]? = some 0) (hk : k < N) (hw : Cond.fieldLinkNest M.1.cls idx C (T k).2.1 (T k).2.2.1 host ∈ tables_1) (kk : SR l G Sh M o J pc' lv (vI (μ a k) :: st) μ) : SR l G Sh M o J pc lv (vR a :: st) μ := fun b hb => ra_getIN hc hd hp he hs hk hw (kk b hb)
theorem sr_getZN {l : Launch} {G : Nv} {Sh : Shp} {M : MD} {β : Type} {o : Option β} {J : β → Option MV × Mem} {pc pc' : Nat} {lv : List (Option MV)} {st : List MV} {μ : Mem} {ci idx k a N : Nat} {C : String} {T : u_T} {ty : Nat → FieldType} {slots : List Nat} {host : String} (hc : ClsOK ci C T N ty) (hd : decode M.2.1 pc = .ok (.getfield idx, 3)) (hp : pc + 3 = pc') (he : Sh[a]? = some (ci + 3, 0, slots)) (hs : slots[k]? = some 2) (hk : k < N) (hw : Cond.fieldLinkNest M.1.cls idx C (T k).2.1 (T k).2.2.1 host ∈ tables_1) (kk : SR l G Sh M o J pc' lv (vI (μ a k) :: st) μ) : SR l G Sh M o J pc lv (vR a :: st) μ := fun b hb => ra_getZN hc hd hp he hs hk hw (kk b hb)
theorem sr_getLN {l : Launch} {G : Nv} {Sh : Shp} {M : MD} {β : Type} {o : Option β} {J : β → Option MV × Mem} {pc pc' : Nat} {lv : List (Option MV)} {st : List MV} {μ : Mem} {ci idx k a N : Nat} {C : String} {T : u_T} {ty : Nat → FieldType} {slots : List Nat} {host : String} (hc : ClsOK ci C T N ty) (hd : decode M.2.1 pc = .ok (.getfield idx, 3)) (hp : pc + 3 = pc') (he : Sh[a]? = some (ci + 3, 0, slots)) (hs : slots[k]? = some 1) (hk : k < N) (hw : Cond.fieldLinkNest M.1.cls idx C (T k).2.1 (T k).2.2.1 host ∈ tables_1) (kk : SR l G Sh M o J pc' lv (vL (μ a k) :: st) μ) : SR l G Sh M o J pc lv (vR a :: st) μ := fun b hb => ra_getLN hc hd hp he hs hk hw (kk b hb)
theorem sr_getRN {l : Launch} {G : Nv} {Sh : Shp} {M : MD} {β : Type} {o : Option β} {J : β → Option MV × Mem} {pc pc' : Nat} {lv : List (Option MV)} {st : List MV} {μ : Mem} {ci idx k a N b : Nat} {C : String} {T : u_T} {ty : Nat → FieldType} {slots : List Nat} {host : String} (hc : ClsOK ci C T N ty) (hd : decode M.2.1 pc = .ok (.getfield idx, 3)) (hp : pc + 3 = pc') (he : Sh[a]? = some (ci + 3, 0, slots)) (hs : slots[k]? = some (b + 3)) (hk : k < N) (hw : Cond.fieldLinkNest M.1.cls idx C (T k).2.1 (T k).2.2.1 host ∈ tables_1) (kk : SR l G Sh M o J pc' lv (vR b :: st) μ) : SR l G Sh M o J pc lv (vR a :: st) μ := fun b hb => ra_getRN hc hd hp he hs hk hw (kk b hb)
theorem sr_alen0 {l : Launch} {G : Nv} {Sh : Shp} {M : MD} {β : Type} {o : Option β} {J : β → Option MV × Mem} {pc pc' : Nat} {lv : List (Option MV)} {st : List MV} {μ : Mem} {a n : Nat} (hd : decode M.2.1 pc = .ok (.arraylength, 1)) (hp : pc + 1 = pc') (he : Sh[a]? = some (0, n, [])) (hn : n < 2147483648) (k : SR l G Sh M o J pc' lv (vI (n : Int) :: st) μ) : SR l G Sh M o J pc lv (vR a :: st) μ := fun b hb => ra_alen0 hd hp he hn (k b hb)
theorem sr_alen1 {l : Launch} {G : Nv} {Sh : Shp} {M : MD} {β : Type} {o : Option β} {J : β → Option MV × Mem} {pc pc' : Nat} {lv : List (Option MV)} {st : List MV} {μ : Mem} {a n : Nat} (hd : decode M.2.1 pc = .ok (.arraylength, 1)) (hp : pc + 1 = pc') (he : Sh[a]? = some (1, n, [])) (hn : n < 2147483648) (k : SR l G Sh M o J pc' lv (vI (n : Int) :: st) μ) : SR l G Sh M o J pc lv (vR a :: st) μ := fun b hb => ra_alen1 hd hp he hn (k b hb)
theorem sr_alen2 {l : Launch} {G : Nv} {Sh : Shp} {M : MD} {β : Type} {o : Option β} {J : β → Option MV × Mem} {pc pc' : Nat} {lv : List (Option MV)} {st : List MV} {μ : Mem} {a n : Nat} (hd : decode M.2.1 pc = .ok (.arraylength, 1)) (hp : pc + 1 = pc') (he : Sh[a]? = some (2, n, [])) (hn : n < 2147483648) (k : SR l G Sh M o J pc' lv (vI (n : Int) :: st) μ) : SR l G Sh M o J pc lv (vR a :: st) μ := fun b hb => ra_alen2 hd hp he hn (k b hb)
theorem sr_gets {l : Launch} {G : Nv} {Sh : Shp} {M : MD} {β : Type} {o : Option β} {J : β → Option MV × Mem} {pc pc' : Nat} {lv : List (Option MV)} {st : List MV} {μ : Mem} {idx : Nat} {C n d : String} {v : MV} (hd : decode M.2.1 pc = .ok (.getstatic idx, 3)) (hp : pc + 3 = pc') (hz : (C, n, d, rv G v) ∈ roStat G) (hv : okv v) (hw : Cond.fieldLink M.1.cls idx C n d ∈ TBL) (k : SR l G Sh M o J pc' lv (v :: st) μ) : SR l G Sh M o J pc lv st μ := fun b hb => ra_gets hd hp hz hv hw (k b hb)
theorem sr_getsN {l : Launch} {G : Nv} {Sh : Shp} {M : MD} {β : Type} {o : Option β} {J : β → Option MV × Mem} {pc pc' : Nat} {lv : List (Option MV)} {st : List MV} {μ : Mem} {idx : Nat} {C n d host : String} {v : MV} (hd : decode M.2.1 pc = .ok (.getstatic idx, 3)) (hp : pc + 3 = pc') (hz : (C, n, d, rv G v) ∈ roStat G) (hv : okv v) (hw : Cond.fieldLinkNest M.1.cls idx C n d host ∈ tables_1) (k : SR l G Sh M o J pc' lv (v :: st) μ) : SR l G Sh M o J pc lv st μ := fun b hb => ra_getsN hd hp hz hv hw (k b hb)
theorem sr_ti {l : Launch} {G : Nv} {Sh : Shp} {M : MD} {β : Type} {o : Option β} {J : β → Option MV × Mem} {pc pc' : Nat} {lv : List (Option MV)} {st : List MV} {μ : Mem} {a : Nat} {i : Int} {f : List Int} (hd : decode M.2.1 pc = .ok (.iaload, 1)) (hp : pc + 1 = pc') (he : (a, FieldType.int, f) ∈ roArr) (hn : f.length < 2147483648) (hf : ∀ x ∈ f, C32 x) (h0 : 0 ≤ i) (h1 : i < f.length) (k : SR l G Sh M o J pc' lv (vI (f.getD i.toNat 0) :: st) μ) : SR l G Sh M o J pc lv (vI i :: vR a :: st) μ := fun b hb => ra_ti hd hp he hn hf h0 h1 (k b hb)
theorem sr_tlen {l : Launch} {G : Nv} {Sh : Shp} {M : MD} {β : Type} {o : Option β} {J : β → Option MV × Mem} {pc pc' : Nat} {lv : List (Option MV)} {st : List MV} {μ : Mem} {a : Nat} {f : List Int} (hd : decode M.2.1 pc = .ok (.arraylength, 1)) (hp : pc + 1 = pc') (he : (a, FieldType.int, f) ∈ roArr) (hn : f.length < 2147483648) (k : SR l G Sh M o J pc' lv (vI (f.length : Int) :: st) μ) : SR l G Sh M o J pc lv (vR a :: st) μ := fun b hb => ra_tlen hd hp he hn (k b hb)
theorem sr_tb {l : Launch} {G : Nv} {Sh : Shp} {M : MD} {β : Type} {o : Option β} {J : β → Option MV × Mem} {pc pc' : Nat} {lv : List (Option MV)} {st : List MV} {μ : Mem} {j : Nat} {i : Int} (hd : decode M.2.1 pc = .ok (.baload, 1)) (hp : pc + 1 = pc') (hj : j < 14) (h0 : 0 ≤ i) (h1 : i < (roTx.getD j []).length) (k : SR l G Sh M o J pc' lv (vI ((roTx.getD j []).getD i.toNat 0) :: st) μ) : SR l G Sh M o J pc lv (vI i :: vR (120 + j) :: st) μ := fun b hb => ra_tb hd hp hj h0 h1 (k b hb)
theorem sr_tblen {l : Launch} {G : Nv} {Sh : Shp} {M : MD} {β : Type} {o : Option β} {J : β → Option MV × Mem} {pc pc' : Nat} {lv : List (Option MV)} {st : List MV} {μ : Mem} {j : Nat} (hd : decode M.2.1 pc = .ok (.arraylength, 1)) (hp : pc + 1 = pc') (hj : j < 14) (k : SR l G Sh M o J pc' lv (vI ((roTx.getD j []).length : Int) :: st) μ) : SR l G Sh M o J pc lv (vR (120 + j) :: st) μ := fun b hb => ra_tblen hd hp hj (k b hb)
theorem sr_sval {l : Launch} {G : Nv} {Sh : Shp} {M : MD} {β : Type} {o : Option β} {J : β → Option MV × Mem} {pc pc' : Nat} {lv : List (Option MV)} {st : List MV} {μ : Mem} {j idx : Nat} (hd : decode M.2.1 pc = .ok (.getfield idx, 3)) (hp : pc + 3 = pc') (hj : j < 14) (hw : Cond.fieldLink M.1.cls idx "java/lang/String" "value" "[B" ∈ TBL) (k : SR l G Sh M o J pc' lv (vR (120 + j) :: st) μ) : SR l G Sh M o J pc lv (vR (100 + j) :: st) μ := fun b hb => ra_sval hd hp hj hw (k b hb)
theorem sr_scod {l : Launch} {G : Nv} {Sh : Shp} {M : MD} {β : Type} {o : Option β} {J : β → Option MV × Mem} {pc pc' : Nat} {lv : List (Option MV)} {st : List MV} {μ : Mem} {j idx : Nat} (hd : decode M.2.1 pc = .ok (.getfield idx, 3)) (hp : pc + 3 = pc') (hj : j < 14) (hw : Cond.fieldLink M.1.cls idx "java/lang/String" "coder" "B" ∈ TBL) (k : SR l G Sh M o J pc' lv (vI 0 :: st) μ) : SR l G Sh M o J pc lv (vR (100 + j) :: st) μ := fun b hb => ra_scod hd hp hj hw (k b hb)
theorem sr_ldcS {l : Launch} {G : Nv} {Sh : Shp} {M : MD} {β : Type} {o : Option β} {J : β → Option MV × Mem} {pc pc' : Nat} {lv : List (Option MV)} {st : List MV} {μ : Mem} {j idx : Nat} {tx : String} (hd : decode M.2.1 pc = .ok (.ldc idx, 2)) (hp : pc + 2 = pc') (ho : M.1.cls = "WheelsWidths$Reader") (hj : (idx, tx, j) ∈ roStr) (k : SR l G Sh M o J pc' lv (vR (100 + j) :: st) μ) : SR l G Sh M o J pc lv st μ := fun b hb => ra_ldcS hd hp ho hj (k b hb)
theorem sr_icmp_eq {l : Launch} {G : Nv} {Sh : Shp} {M : MD} {β : Type} {J : β → Option MV × Mem} {pc pc' : Nat} {lv : List (Option MV)} {st : List MV} {μ : Mem} {x y off : Int} {tgt : Nat} {A B : Option β} (hd : decode M.2.1 pc = .ok (.if_icmp .eq off, 3)) (hp : pc + 3 = pc') (ht : (pc : Int) + off = (tgt : Int)) (ka : x = y → SR l G Sh M A J tgt lv st μ) (kb : ¬ (x = y) → SR l G Sh M B J pc' lv st μ) : SR l G Sh M (if x = y then A else B) J pc lv (vI y :: vI x :: st) μ := fun b hb => ra_icmp_eq hd hp ht (fun hc => ka hc b (by rw [if_pos hc] at hb; exact hb)) (fun hc => kb hc b (by rw [if_neg hc] at hb; exact hb))
theorem sr_if_eq {l : Launch} {G : Nv} {Sh : Shp} {M : MD} {β : Type} {J : β → Option MV × Mem} {pc pc' : Nat} {lv : List (Option MV)} {st : List MV} {μ : Mem} {x off : Int} {tgt : Nat} {A B : Option β} (hd : decode M.2.1 pc = .ok (.ifCond .eq off, 3)) (hp : pc + 3 = pc') (ht : (pc : Int) + off = (tgt : Int)) (ka : x = 0 → SR l G Sh M A J tgt lv st μ) (kb : ¬ (x = 0) → SR l G Sh M B J pc' lv st μ) : SR l G Sh M (if x = 0 then A else B) J pc lv (vI x :: st) μ := fun b hb => ra_if_eq hd hp ht (fun hc => ka hc b (by rw [if_pos hc] at hb; exact hb)) (fun hc => kb hc b (by rw [if_neg hc] at hb; exact hb))
theorem sr_icmp_ne {l : Launch} {G : Nv} {Sh : Shp} {M : MD} {β : Type} {J : β → Option MV × Mem} {pc pc' : Nat} {lv : List (Option MV)} {st : List MV} {μ : Mem} {x y off : Int} {tgt : Nat} {A B : Option β} (hd : decode M.2.1 pc = .ok (.if_icmp .ne off, 3)) (hp : pc + 3 = pc') (ht : (pc : Int) + off = (tgt : Int)) (ka : x = y → SR l G Sh M A J pc' lv st μ) (kb : ¬ (x = y) → SR l G Sh M B J tgt lv st μ) : SR l G Sh M (if x = y then A else B) J pc lv (vI y :: vI x :: st) μ := fun b hb => ra_icmp_ne hd hp ht (fun hc => kb hc b (by rw [if_neg hc] at hb; exact hb)) (fun hc => ka hc b (by rw [if_pos hc] at hb; exact hb))
theorem sr_if_ne {l : Launch} {G : Nv} {Sh : Shp} {M : MD} {β : Type} {J : β → Option MV × Mem} {pc pc' : Nat} {lv : List (Option MV)} {st : List MV} {μ : Mem} {x off : Int} {tgt : Nat} {A B : Option β} (hd : decode M.2.1 pc = .ok (.ifCond .ne off, 3)) (hp : pc + 3 = pc') (ht : (pc : Int) + off = (tgt : Int)) (ka : x = 0 → SR l G Sh M A J pc' lv st μ) (kb : ¬ (x = 0) → SR l G Sh M B J tgt lv st μ) : SR l G Sh M (if x = 0 then A else B) J pc lv (vI x :: st) μ := fun b hb => ra_if_ne hd hp ht (fun hc => kb hc b (by rw [if_neg hc] at hb; exact hb)) (fun hc => ka hc b (by rw [if_pos hc] at hb; exact hb))
theorem sr_icmp_lt {l : Launch} {G : Nv} {Sh : Shp} {M : MD} {β : Type} {J : β → Option MV × Mem} {pc pc' : Nat} {lv : List (Option MV)} {st : List MV} {μ : Mem} {x y off : Int} {tgt : Nat} {A B : Option β} (hd : decode M.2.1 pc = .ok (.if_icmp .lt off, 3)) (hp : pc + 3 = pc') (ht : (pc : Int) + off = (tgt : Int)) (ka : x < y → SR l G Sh M A J tgt lv st μ) (kb : ¬ (x < y) → SR l G Sh M B J pc' lv st μ) : SR l G Sh M (if x < y then A else B) J pc lv (vI y :: vI x :: st) μ := fun b hb => ra_icmp_lt hd hp ht (fun hc => ka hc b (by rw [if_pos hc] at hb; exact hb)) (fun hc => kb hc b (by rw [if_neg hc] at hb; exact hb))
theorem sr_if_lt {l : Launch} {G : Nv} {Sh : Shp} {M : MD} {β : Type} {J : β → Option MV × Mem} {pc pc' : Nat} {lv : List (Option MV)} {st : List MV} {μ : Mem} {x off : Int} {tgt : Nat} {A B : Option β} (hd : decode M.2.1 pc = .ok (.ifCond .lt off, 3)) (hp : pc + 3 = pc') (ht : (pc : Int) + off = (tgt : Int)) (ka : x < 0 → SR l G Sh M A J tgt lv st μ) (kb : ¬ (x < 0) → SR l G Sh M B J pc' lv st μ) : SR l G Sh M (if x < 0 then A else B) J pc lv (vI x :: st) μ := fun b hb => ra_if_lt hd hp ht (fun hc => ka hc b (by rw [if_pos hc] at hb; exact hb)) (fun hc => kb hc b (by rw [if_neg hc] at hb; exact hb))
theorem sr_icmp_ge {l : Launch} {G : Nv} {Sh : Shp} {M : MD} {β : Type} {J : β → Option MV × Mem} {pc pc' : Nat} {lv : List (Option MV)} {st : List MV} {μ : Mem} {x y off : Int} {tgt : Nat} {A B : Option β} (hd : decode M.2.1 pc = .ok (.if_icmp .ge off, 3)) (hp : pc + 3 = pc') (ht : (pc : Int) + off = (tgt : Int)) (ka : y ≤ x → SR l G Sh M A J tgt lv st μ) (kb : ¬ (y ≤ x) → SR l G Sh M B J pc' lv st μ) : SR l G Sh M (if y ≤ x then A else B) J pc lv (vI y :: vI x :: st) μ := fun b hb => ra_icmp_ge hd hp ht (fun hc => ka hc b (by rw [if_pos hc] at hb; exact hb)) (fun hc => kb hc b (by rw [if_neg hc] at hb; exact hb))
theorem sr_if_ge {l : Launch} {G : Nv} {Sh : Shp} {M : MD} {β : Type} {J : β → Option MV × Mem} {pc pc' : Nat} {lv : List (Option MV)} {st : List MV} {μ : Mem} {x off : Int} {tgt : Nat} {A B : Option β} (hd : decode M.2.1 pc = .ok (.ifCond .ge off, 3)) (hp : pc + 3 = pc') (ht : (pc : Int) + off = (tgt : Int)) (ka : 0 ≤ x → SR l G Sh M A J tgt lv st μ) (kb : ¬ (0 ≤ x) → SR l G Sh M B J pc' lv st μ) : SR l G Sh M (if 0 ≤ x then A else B) J pc lv (vI x :: st) μ := fun b hb => ra_if_ge hd hp ht (fun hc => ka hc b (by rw [if_pos hc] at hb; exact hb)) (fun hc => kb hc b (by rw [if_neg hc] at hb; exact hb))
theorem sr_icmp_gt {l : Launch} {G : Nv} {Sh : Shp} {M : MD} {β : Type} {J : β → Option MV × Mem} {pc pc' : Nat} {lv : List (Option MV)} {st : List MV} {μ : Mem} {x y off : Int} {tgt : Nat} {A B : Option β} (hd : decode M.2.1 pc = .ok (.if_icmp .gt off, 3)) (hp : pc + 3 = pc') (ht : (pc : Int) + off = (tgt : Int)) (ka : y < x → SR l G Sh M A J tgt lv st μ) (kb : ¬ (y < x) → SR l G Sh M B J pc' lv st μ) : SR l G Sh M (if y < x then A else B) J pc lv (vI y :: vI x :: st) μ := fun b hb => ra_icmp_gt hd hp ht (fun hc => ka hc b (by rw [if_pos hc] at hb; exact hb)) (fun hc => kb hc b (by rw [if_neg hc] at hb; exact hb))
theorem sr_if_gt {l : Launch} {G : Nv} {Sh : Shp} {M : MD} {β : Type} {J : β → Option MV × Mem} {pc pc' : Nat} {lv : List (Option MV)} {st : List MV} {μ : Mem} {x off : Int} {tgt : Nat} {A B : Option β} (hd : decode M.2.1 pc = .ok (.ifCond .gt off, 3)) (hp : pc + 3 = pc') (ht : (pc : Int) + off = (tgt : Int)) (ka : 0 < x → SR l G Sh M A J tgt lv st μ) (kb : ¬ (0 < x) → SR l G Sh M B J pc' lv st μ) : SR l G Sh M (if 0 < x then A else B) J pc lv (vI x :: st) μ := fun b hb => ra_if_gt hd hp ht (fun hc => ka hc b (by rw [if_pos hc] at hb; exact hb)) (fun hc => kb hc b (by rw [if_neg hc] at hb; exact hb))
theorem sr_icmp_le {l : Launch} {G : Nv} {Sh : Shp} {M : MD} {β : Type} {J : β → Option MV × Mem} {pc pc' : Nat} {lv : List (Option MV)} {st : List MV} {μ : Mem} {x y off : Int} {tgt : Nat} {A B : Option β} (hd : decode M.2.1 pc = .ok (.if_icmp .le off, 3)) (hp : pc + 3 = pc') (ht : (pc : Int) + off = (tgt : Int)) (ka : x ≤ y → SR l G Sh M A J tgt lv st μ) (kb : ¬ (x ≤ y) → SR l G Sh M B J pc' lv st μ) : SR l G Sh M (if x ≤ y then A else B) J pc lv (vI y :: vI x :: st) μ := fun b hb => ra_icmp_le hd hp ht (fun hc => ka hc b (by rw [if_pos hc] at hb; exact hb)) (fun hc => kb hc b (by rw [if_neg hc] at hb; exact hb))
theorem sr_if_le {l : Launch} {G : Nv} {Sh : Shp} {M : MD} {β : Type} {J : β → Option MV × Mem} {pc pc' : Nat} {lv : List (Option MV)} {st : List MV} {μ : Mem} {x off : Int} {tgt : Nat} {A B : Option β} (hd : decode M.2.1 pc = .ok (.ifCond .le off, 3)) (hp : pc + 3 = pc') (ht : (pc : Int) + off = (tgt : Int)) (ka : x ≤ 0 → SR l G Sh M A J tgt lv st μ) (kb : ¬ (x ≤ 0) → SR l G Sh M B J pc' lv st μ) : SR l G Sh M (if x ≤ 0 then A else B) J pc lv (vI x :: st) μ := fun b hb => ra_if_le hd hp ht (fun hc => ka hc b (by rw [if_pos hc] at hb; exact hb)) (fun hc => kb hc b (by rw [if_neg hc] at hb; exact hb))
theorem sr_ite {l : Launch} {G : Nv} {Sh : Shp} {M : MD} {β : Type} {J : β → Option MV × Mem} {pc : Nat} {lv : List (Option MV)} {st : List MV} {μ : Mem} {c : Prop} [Decidable c] {A B : Option β} (ka : c → SR l G Sh M A J pc lv st μ) (kb : ¬ c → SR l G Sh M B J pc lv st μ) : SR l G Sh M (if c then A else B) J pc lv st μ := by
  by_cases hc : c
  · rw [if_pos hc]; exact ka hc
  · rw [if_neg hc]; exact kb hc
theorem sr_bnd {l : Launch} {G : Nv} {Sh : Shp} {M : MD} {β : Type} {J : β → Option MV × Mem} {pc : Nat} {lv : List (Option MV)} {st : List MV} {μ : Mem} {x : Int} {f : Int → Option β} (k : ∀ y, y = x → SR l G Sh M (f y) J pc lv (vI y :: st) μ) : SR l G Sh M (bnd x f) J pc lv (vI x :: st) μ := k x rfl
theorem sr_bndL {l : Launch} {G : Nv} {Sh : Shp} {M : MD} {β : Type} {J : β → Option MV × Mem} {pc : Nat} {lv : List (Option MV)} {st : List MV} {μ : Mem} {x : Int} {f : Int → Option β} (k : ∀ y, y = x → SR l G Sh M (f y) J pc lv (vL y :: st) μ) : SR l G Sh M (bnd x f) J pc lv (vL x :: st) μ := k x rfl
theorem sr_iald {l : Launch} {G : Nv} {Sh : Shp} {M : MD} {β : Type} {J : β → Option MV × Mem} {pc pc' : Nat} {lv : List (Option MV)} {st : List MV} {μ : Mem} {a n : Nat} {i : Int} {f : Int → Option β} (hd : decode M.2.1 pc = .ok (.iaload, 1)) (hp : pc + 1 = pc') (he : Sh[a]? = some (0, n, [])) (hn : n < 2147483648) (k : ∀ v, v = μ a i.toNat → 0 ≤ i → i < n → SR l G Sh M (f v) J pc' lv (vI v :: st) μ) : SR l G Sh M ((ld μ a n i).bind f) J pc lv (vI i :: vR a :: st) μ := fun b hb => by
  unfold ld at hb
  split at hb
  · rename_i h
    exact ra_iald hd hp he hn h.1 h.2 (k _ rfl h.1 h.2 b hb)
  · cases hb
theorem sr_ialdc {l : Launch} {G : Nv} {Sh : Shp} {M : MD} {β : Type} {o : Option β} {J : β → Option MV × Mem} {pc pc' : Nat} {lv : List (Option MV)} {st : List MV} {μ : Mem} {a n : Nat} {i : Int} {j : Nat} (hd : decode M.2.1 pc = .ok (.iaload, 1)) (hp : pc + 1 = pc') (he : Sh[a]? = some (0, n, [])) (hn : n < 2147483648) (h0 : 0 ≤ i) (h1 : i < n) (hj : i.toNat = j) (k : SR l G Sh M o J pc' lv (vI (μ a j) :: st) μ) : SR l G Sh M o J pc lv (vI i :: vR a :: st) μ := fun b hb => ra_iald hd hp he hn h0 h1 (by rw [hj]; exact k b hb)
theorem sr_bald {l : Launch} {G : Nv} {Sh : Shp} {M : MD} {β : Type} {J : β → Option MV × Mem} {pc pc' : Nat} {lv : List (Option MV)} {st : List MV} {μ : Mem} {a n : Nat} {i : Int} {f : Int → Option β} (hd : decode M.2.1 pc = .ok (.baload, 1)) (hp : pc + 1 = pc') (he : Sh[a]? = some (1, n, [])) (hn : n < 2147483648) (k : ∀ v, v = μ a i.toNat → 0 ≤ i → i < n → SR l G Sh M (f v) J pc' lv (vI v :: st) μ) : SR l G Sh M ((ld μ a n i).bind f) J pc lv (vI i :: vR a :: st) μ := fun b hb => by
  unfold ld at hb
  split at hb
  · rename_i h
    exact ra_bald hd hp he hn h.1 h.2 (k _ rfl h.1 h.2 b hb)
  · cases hb
theorem sr_baldc {l : Launch} {G : Nv} {Sh : Shp} {M : MD} {β : Type} {o : Option β} {J : β → Option MV × Mem} {pc pc' : Nat} {lv : List (Option MV)} {st : List MV} {μ : Mem} {a n : Nat} {i : Int} {j : Nat} (hd : decode M.2.1 pc = .ok (.baload, 1)) (hp : pc + 1 = pc') (he : Sh[a]? = some (1, n, [])) (hn : n < 2147483648) (h0 : 0 ≤ i) (h1 : i < n) (hj : i.toNat = j) (k : SR l G Sh M o J pc' lv (vI (μ a j) :: st) μ) : SR l G Sh M o J pc lv (vI i :: vR a :: st) μ := fun b hb => ra_bald hd hp he hn h0 h1 (by rw [hj]; exact k b hb)
theorem sr_zald {l : Launch} {G : Nv} {Sh : Shp} {M : MD} {β : Type} {J : β → Option MV × Mem} {pc pc' : Nat} {lv : List (Option MV)} {st : List MV} {μ : Mem} {a n : Nat} {i : Int} {f : Int → Option β} (hd : decode M.2.1 pc = .ok (.baload, 1)) (hp : pc + 1 = pc') (he : Sh[a]? = some (2, n, [])) (hn : n < 2147483648) (k : ∀ v, v = μ a i.toNat → 0 ≤ i → i < n → SR l G Sh M (f v) J pc' lv (vI v :: st) μ) : SR l G Sh M ((ld μ a n i).bind f) J pc lv (vI i :: vR a :: st) μ := fun b hb => by
  unfold ld at hb
  split at hb
  · rename_i h
    exact ra_zald hd hp he hn h.1 h.2 (k _ rfl h.1 h.2 b hb)
  · cases hb
theorem sr_zaldc {l : Launch} {G : Nv} {Sh : Shp} {M : MD} {β : Type} {o : Option β} {J : β → Option MV × Mem} {pc pc' : Nat} {lv : List (Option MV)} {st : List MV} {μ : Mem} {a n : Nat} {i : Int} {j : Nat} (hd : decode M.2.1 pc = .ok (.baload, 1)) (hp : pc + 1 = pc') (he : Sh[a]? = some (2, n, [])) (hn : n < 2147483648) (h0 : 0 ≤ i) (h1 : i < n) (hj : i.toNat = j) (k : SR l G Sh M o J pc' lv (vI (μ a j) :: st) μ) : SR l G Sh M o J pc lv (vI i :: vR a :: st) μ := fun b hb => ra_zald hd hp he hn h0 h1 (by rw [hj]; exact k b hb)
theorem sr_iast {l : Launch} {G : Nv} {Sh : Shp} {M : MD} {β : Type} {J : β → Option MV × Mem} {pc pc' : Nat} {lv : List (Option MV)} {st : List MV} {μ : Mem} {a n : Nat} {i x : Int} {f : Mem → Option β} (hd : decode M.2.1 pc = .ok (.iastore, 1)) (hp : pc + 1 = pc') (he : Sh[a]? = some (0, n, [])) (hn : n < 2147483648) (k : ∀ μ1, μ1 = mset μ a i.toNat x → 0 ≤ i → i < n → SR l G Sh M (f μ1) J pc' lv st μ1) : SR l G Sh M ((stx μ a n i x).bind f) J pc lv (vI x :: vI i :: vR a :: st) μ := fun b hb => by
  unfold stx at hb
  split at hb
  · rename_i h
    exact ra_iast hd hp he hn h.1 h.2 (k _ rfl h.1 h.2 b hb)
  · cases hb
theorem sr_iastc {l : Launch} {G : Nv} {Sh : Shp} {M : MD} {β : Type} {J : β → Option MV × Mem} {pc pc' : Nat} {lv : List (Option MV)} {st : List MV} {μ : Mem} {a n j : Nat} {i x : Int} {f : Mem → Option β} (hd : decode M.2.1 pc = .ok (.iastore, 1)) (hp : pc + 1 = pc') (he : Sh[a]? = some (0, n, [])) (hn : n < 2147483648) (h0 : 0 ≤ i) (h1 : i < n) (hj : i.toNat = j) (k : ∀ μ1, μ1 = mset μ a j x → SR l G Sh M (f μ1) J pc' lv st μ1) : SR l G Sh M (bnd (mset μ a j x) f) J pc lv (vI x :: vI i :: vR a :: st) μ := fun b hb => ra_iast hd hp he hn h0 h1 (by rw [hj]; exact k _ rfl b hb)
theorem sr_bast {l : Launch} {G : Nv} {Sh : Shp} {M : MD} {β : Type} {J : β → Option MV × Mem} {pc pc' : Nat} {lv : List (Option MV)} {st : List MV} {μ : Mem} {a n : Nat} {i x : Int} {f : Mem → Option β} (hd : decode M.2.1 pc = .ok (.bastore, 1)) (hp : pc + 1 = pc') (he : Sh[a]? = some (1, n, [])) (hn : n < 2147483648) (k : ∀ μ1, μ1 = mset μ a i.toNat (bN x) → 0 ≤ i → i < n → SR l G Sh M (f μ1) J pc' lv st μ1) : SR l G Sh M ((stx μ a n i (bN x)).bind f) J pc lv (vI x :: vI i :: vR a :: st) μ := fun b hb => by
  unfold stx at hb
  split at hb
  · rename_i h
    exact ra_bast hd hp he hn h.1 h.2 (k _ rfl h.1 h.2 b hb)
  · cases hb
theorem sr_bastc {l : Launch} {G : Nv} {Sh : Shp} {M : MD} {β : Type} {J : β → Option MV × Mem} {pc pc' : Nat} {lv : List (Option MV)} {st : List MV} {μ : Mem} {a n j : Nat} {i x : Int} {f : Mem → Option β} (hd : decode M.2.1 pc = .ok (.bastore, 1)) (hp : pc + 1 = pc') (he : Sh[a]? = some (1, n, [])) (hn : n < 2147483648) (h0 : 0 ≤ i) (h1 : i < n) (hj : i.toNat = j) (k : ∀ μ1, μ1 = mset μ a j (bN x) → SR l G Sh M (f μ1) J pc' lv st μ1) : SR l G Sh M (bnd (mset μ a j (bN x)) f) J pc lv (vI x :: vI i :: vR a :: st) μ := fun b hb => ra_bast hd hp he hn h0 h1 (by rw [hj]; exact k _ rfl b hb)
theorem sr_zast {l : Launch} {G : Nv} {Sh : Shp} {M : MD} {β : Type} {J : β → Option MV × Mem} {pc pc' : Nat} {lv : List (Option MV)} {st : List MV} {μ : Mem} {a n : Nat} {i x : Int} {f : Mem → Option β} (hd : decode M.2.1 pc = .ok (.bastore, 1)) (hp : pc + 1 = pc') (he : Sh[a]? = some (2, n, [])) (hn : n < 2147483648) (k : ∀ μ1, μ1 = mset μ a i.toNat (zN x) → 0 ≤ i → i < n → SR l G Sh M (f μ1) J pc' lv st μ1) : SR l G Sh M ((stx μ a n i (zN x)).bind f) J pc lv (vI x :: vI i :: vR a :: st) μ := fun b hb => by
  unfold stx at hb
  split at hb
  · rename_i h
    exact ra_zast hd hp he hn h.1 h.2 (k _ rfl h.1 h.2 b hb)
  · cases hb
theorem sr_zastc {l : Launch} {G : Nv} {Sh : Shp} {M : MD} {β : Type} {J : β → Option MV × Mem} {pc pc' : Nat} {lv : List (Option MV)} {st : List MV} {μ : Mem} {a n j : Nat} {i x : Int} {f : Mem → Option β} (hd : decode M.2.1 pc = .ok (.bastore, 1)) (hp : pc + 1 = pc') (he : Sh[a]? = some (2, n, [])) (hn : n < 2147483648) (h0 : 0 ≤ i) (h1 : i < n) (hj : i.toNat = j) (k : ∀ μ1, μ1 = mset μ a j (zN x) → SR l G Sh M (f μ1) J pc' lv st μ1) : SR l G Sh M (bnd (mset μ a j (zN x)) f) J pc lv (vI x :: vI i :: vR a :: st) μ := fun b hb => ra_zast hd hp he hn h0 h1 (by rw [hj]; exact k _ rfl b hb)
theorem sr_putI {l : Launch} {G : Nv} {Sh : Shp} {M : MD} {β : Type} {J : β → Option MV × Mem} {pc pc' : Nat} {lv : List (Option MV)} {st : List MV} {μ : Mem} {ci idx k a N : Nat} {x : Int} {C : String} {T : u_T} {ty : Nat → FieldType} {slots : List Nat} {f : Mem → Option β} (hc : ClsOK ci C T N ty) (hd : decode M.2.1 pc = .ok (.putfield idx, 3)) (hp : pc + 3 = pc') (he : Sh[a]? = some (ci + 3, 0, slots)) (hs : slots[k]? = some 0) (hk : k < N) (hw : Cond.fieldLink M.1.cls idx C (T k).2.1 (T k).2.2.1 ∈ TBL) (hty : ty k = .int) (hfin : (T k).2.2.2 = false) (kk : ∀ μ1, μ1 = mset μ a k x → SR l G Sh M (f μ1) J pc' lv st μ1) : SR l G Sh M (bnd (mset μ a k x) f) J pc lv (vI x :: vR a :: st) μ := fun b hb => ra_putI hc hd hp he hs hk hw hty hfin (kk _ rfl b hb)
theorem sr_putL {l : Launch} {G : Nv} {Sh : Shp} {M : MD} {β : Type} {J : β → Option MV × Mem} {pc pc' : Nat} {lv : List (Option MV)} {st : List MV} {μ : Mem} {ci idx k a N : Nat} {x : Int} {C : String} {T : u_T} {ty : Nat → FieldType} {slots : List Nat} {f : Mem → Option β} (hc : ClsOK ci C T N ty) (hd : decode M.2.1 pc = .ok (.putfield idx, 3)) (hp : pc + 3 = pc') (he : Sh[a]? = some (ci + 3, 0, slots)) (hs : slots[k]? = some 1) (hk : k < N) (hw : Cond.fieldLink M.1.cls idx C (T k).2.1 (T k).2.2.1 ∈ TBL) (hty : ty k = .long) (hfin : (T k).2.2.2 = false) (kk : ∀ μ1, μ1 = mset μ a k x → SR l G Sh M (f μ1) J pc' lv st μ1) : SR l G Sh M (bnd (mset μ a k x) f) J pc lv (vL x :: vR a :: st) μ := fun b hb => ra_putL hc hd hp he hs hk hw hty hfin (kk _ rfl b hb)
theorem sr_putZ {l : Launch} {G : Nv} {Sh : Shp} {M : MD} {β : Type} {J : β → Option MV × Mem} {pc pc' : Nat} {lv : List (Option MV)} {st : List MV} {μ : Mem} {ci idx k a N : Nat} {x : Int} {C : String} {T : u_T} {ty : Nat → FieldType} {slots : List Nat} {f : Mem → Option β} (hc : ClsOK ci C T N ty) (hd : decode M.2.1 pc = .ok (.putfield idx, 3)) (hp : pc + 3 = pc') (he : Sh[a]? = some (ci + 3, 0, slots)) (hs : slots[k]? = some 2) (hk : k < N) (hw : Cond.fieldLink M.1.cls idx C (T k).2.1 (T k).2.2.1 ∈ TBL) (hty : ty k = .boolean) (hfin : (T k).2.2.2 = false) (hx : x = 0 ∨ x = 1) (kk : ∀ μ1, μ1 = mset μ a k x → SR l G Sh M (f μ1) J pc' lv st μ1) : SR l G Sh M (bnd (mset μ a k x) f) J pc lv (vI x :: vR a :: st) μ := fun b hb => ra_putZ hc hd hp he hs hk hw hty hfin hx (kk _ rfl b hb)
theorem sr_putIN {l : Launch} {G : Nv} {Sh : Shp} {M : MD} {β : Type} {J : β → Option MV × Mem} {pc pc' : Nat} {lv : List (Option MV)} {st : List MV} {μ : Mem} {ci idx k a N : Nat} {x : Int} {C : String} {T : u_T} {ty : Nat → FieldType} {slots : List Nat} {host : String} {f : Mem → Option β} (hc : ClsOK ci C T N ty) (hd : decode M.2.1 pc = .ok (.putfield idx, 3)) (hp : pc + 3 = pc') (he : Sh[a]? = some (ci + 3, 0, slots)) (hs : slots[k]? = some 0) (hk : k < N) (hw : Cond.fieldLinkNest M.1.cls idx C (T k).2.1 (T k).2.2.1 host ∈ tables_1) (hty : ty k = .int) (hfin : (T k).2.2.2 = false) (kk : ∀ μ1, μ1 = mset μ a k x → SR l G Sh M (f μ1) J pc' lv st μ1) : SR l G Sh M (bnd (mset μ a k x) f) J pc lv (vI x :: vR a :: st) μ := fun b hb => ra_putIN hc hd hp he hs hk hw hty hfin (kk _ rfl b hb)
theorem sr_putLN {l : Launch} {G : Nv} {Sh : Shp} {M : MD} {β : Type} {J : β → Option MV × Mem} {pc pc' : Nat} {lv : List (Option MV)} {st : List MV} {μ : Mem} {ci idx k a N : Nat} {x : Int} {C : String} {T : u_T} {ty : Nat → FieldType} {slots : List Nat} {host : String} {f : Mem → Option β} (hc : ClsOK ci C T N ty) (hd : decode M.2.1 pc = .ok (.putfield idx, 3)) (hp : pc + 3 = pc') (he : Sh[a]? = some (ci + 3, 0, slots)) (hs : slots[k]? = some 1) (hk : k < N) (hw : Cond.fieldLinkNest M.1.cls idx C (T k).2.1 (T k).2.2.1 host ∈ tables_1) (hty : ty k = .long) (hfin : (T k).2.2.2 = false) (kk : ∀ μ1, μ1 = mset μ a k x → SR l G Sh M (f μ1) J pc' lv st μ1) : SR l G Sh M (bnd (mset μ a k x) f) J pc lv (vL x :: vR a :: st) μ := fun b hb => ra_putLN hc hd hp he hs hk hw hty hfin (kk _ rfl b hb)
theorem sr_putZN {l : Launch} {G : Nv} {Sh : Shp} {M : MD} {β : Type} {J : β → Option MV × Mem} {pc pc' : Nat} {lv : List (Option MV)} {st : List MV} {μ : Mem} {ci idx k a N : Nat} {x : Int} {C : String} {T : u_T} {ty : Nat → FieldType} {slots : List Nat} {host : String} {f : Mem → Option β} (hc : ClsOK ci C T N ty) (hd : decode M.2.1 pc = .ok (.putfield idx, 3)) (hp : pc + 3 = pc') (he : Sh[a]? = some (ci + 3, 0, slots)) (hs : slots[k]? = some 2) (hk : k < N) (hw : Cond.fieldLinkNest M.1.cls idx C (T k).2.1 (T k).2.2.1 host ∈ tables_1) (hty : ty k = .boolean) (hfin : (T k).2.2.2 = false) (hx : x = 0 ∨ x = 1) (kk : ∀ μ1, μ1 = mset μ a k x → SR l G Sh M (f μ1) J pc' lv st μ1) : SR l G Sh M (bnd (mset μ a k x) f) J pc lv (vI x :: vR a :: st) μ := fun b hb => ra_putZN hc hd hp he hs hk hw hty hfin hx (kk _ rfl b hb)
theorem W_nret {p : Program} {l : Launch} {e : Env} {R : Room} {s : State} {m : MethodId} {args : Array Value} {below : List Frame} {meth : Method} {c : Code} {H : Heap} {locs : List Loc} {cells slots : Nat} {cc : ByteArray} {Qc : Array Value → State → Outcome → State → Prop} {free : Addr → Prop} {v w : Int32} {ty : FieldType} (hexec : p.tables.exec = Jvm.exec) (hb : c.code = cc) (hr : meth.sig.returnType = some ty) (hn : narrow ty (.int v) = .int w)
    (hq : ∀ t : State, t.heap = H → s.WarmedH t.vm → Qc args s (.returned (some (.int w))) t) (hf : ∀ q ∈ locs, free q.base)
    {pc : Nat} {ls : Array Slot} (hdg : decode cc pc = .ok (.ireturn, 1)) (hlocks : meth.locks = false) : W p l e R s m args below meth c H locs cells slots (MQ below Qc args s cells slots free) (F0 m pc ls [.int v]) := by
  intro T hT X
  obtain ⟨fs, hret, hrun, hended, hW, hframe⟩ := X.leave (v := some (.int w)) (fun h => by rw [hr] at h; cases h)
  have hmeth' : T.vm.method? m = some meth := X.method'
  refine ⟨T.setFrames fs, ?_, .returned (some (.int w)), hrun, hended, hq _ hT hW, locs, ⟨⟨_, rfl⟩, hW, hframe⟩, hf⟩
  jvm_step X.here [X.here.top, hexec, hb, hdg, hmeth', hr, hn]
  (try refine ⟨rfl, ?_⟩); (try refine ⟨rfl, ?_⟩)
  first | (intro acts; rw [hret _ acts rfl rfl rfl]) | rw [hret _ _ rfl rfl rfl]
  exact Steps.refl _
theorem zN_01 (x : Int) : zN x = 0 ∨ zN x = 1 := by
  unfold zN
  have h : vp_nar .boolean (Int32.ofInt x) = Int32.ofInt x &&& 1 := rfl
  rw [h, pk_and (Int32.ofInt x) 1 rfl]
  have h2 : (Int32.ofInt x).toBitVec.toNat % 2 ^ 1 < 2 := Nat.mod_lt _ (by decide)
  rcases (show (Int32.ofInt x).toBitVec.toNat % 2 ^ 1 = 0 ∨ (Int32.ofInt x).toBitVec.toNat % 2 ^ 1 = 1 by omega) with h3 | h3 <;> rw [h3]
  · exact Or.inl rfl
  · exact Or.inr rfl
theorem ra_iretN {l : Launch} {G : Nv} {Sh : Shp} {M : MD} {Q : Option MV → Mem → Prop} {pc : Nat} {lv : List (Option MV)} {μ : Mem} {x : Int} (hd : decode M.2.1 pc = .ok (.ireturn, 1)) (hr : M.2.2.2.1 = some .boolean) (hQ : Q (some (vI (zN x))) μ) : RA l G Sh M Q pc lv [vI x] μ := by
  intro p e s m args below meth c H locs ls X hP hD hS hl hn hm hol hos
  have hny : narrow .boolean (.int (Int32.ofInt x)) = .int (Int32.ofInt (zN x)) := by
    unfold zN
    rw [Int32.ofInt_toInt]
    rfl
  exact W_nret (v := Int32.ofInt x) X.1 X.2.1 (X.2.2.2.1.trans hr) hny (fun t ht hW => ⟨⟨some (vI (zN x)), μ, rfl, hQ, ⟨i32_C _, fun h => ⟨zN x, rfl, zN_01 x⟩⟩, hm, by rw [ht]; exact hP, va_K.moved hW.alike X.2.2.2.2.2.2.2.1, hD⟩, hS.F ht⟩) hS.2.2 hd X.2.2.2.2.1
theorem sr_iret {l : Launch} {G : Nv} {Sh : Shp} {M : MD} {pc : Nat} {lv : List (Option MV)} {μ : Mem} {β : Type} {r : β} {J : β → Option MV × Mem} {x : Int} {ty : FieldType} (hd : decode M.2.1 pc = .ok (.ireturn, 1)) (hr : M.2.2.2.1 = some ty) (hny : narrow ty (.int (Int32.ofInt x)) = .int (Int32.ofInt x)) (hz : ty = .boolean → x = 0 ∨ x = 1) (hJ : (some (vI x), μ) = J r) : SR l G Sh M (some r) J pc lv [vI x] μ := fun b hb => ra_iret hd hr hny hz (by cases hb; exact hJ)
theorem sr_iretI {l : Launch} {G : Nv} {Sh : Shp} {M : MD} {pc : Nat} {lv : List (Option MV)} {μ : Mem} {β : Type} {r : β} {J : β → Option MV × Mem} {x : Int} (hd : decode M.2.1 pc = .ok (.ireturn, 1)) (hr : M.2.2.2.1 = some .int) (hJ : (some (vI x), μ) = J r) : SR l G Sh M (some r) J pc lv [vI x] μ := sr_iret hd hr rfl (fun h => by cases h) hJ
theorem sr_iretZ {l : Launch} {G : Nv} {Sh : Shp} {M : MD} {pc : Nat} {lv : List (Option MV)} {μ : Mem} {β : Type} {r : β} {J : β → Option MV × Mem} {x : Int} (hd : decode M.2.1 pc = .ok (.ireturn, 1)) (hr : M.2.2.2.1 = some .boolean) (hz : x = 0 ∨ x = 1) (hJ : (some (vI x), μ) = J r) : SR l G Sh M (some r) J pc lv [vI x] μ := sr_iret hd hr (by rcases hz with rfl | rfl <;> rfl) (fun _ => hz) hJ
theorem sr_iretN {l : Launch} {G : Nv} {Sh : Shp} {M : MD} {pc : Nat} {lv : List (Option MV)} {μ : Mem} {β : Type} {r : β} {J : β → Option MV × Mem} {x : Int} (hd : decode M.2.1 pc = .ok (.ireturn, 1)) (hr : M.2.2.2.1 = some .boolean) (hJ : (some (vI (zN x)), μ) = J r) : SR l G Sh M (some r) J pc lv [vI x] μ := fun b hb => ra_iretN hd hr (by cases hb; exact hJ)
theorem sr_ret {l : Launch} {G : Nv} {Sh : Shp} {M : MD} {pc : Nat} {lv : List (Option MV)} {μ : Mem} {β : Type} {r : β} {J : β → Option MV × Mem} (hd : decode M.2.1 pc = .ok (.return_, 1)) (hr : M.2.2.2.1 = none) (hJ : (none, μ) = J r) : SR l G Sh M (some r) J pc lv [] μ := fun b hb => ra_ret hd hr (by cases hb; exact hJ)
theorem sr_lret {l : Launch} {G : Nv} {Sh : Shp} {M : MD} {pc : Nat} {lv : List (Option MV)} {μ : Mem} {β : Type} {r : β} {J : β → Option MV × Mem} {x : Int} (hd : decode M.2.1 pc = .ok (.lreturn, 1)) (hr : M.2.2.2.1 = some .long) (hJ : (some (vL x), μ) = J r) : SR l G Sh M (some r) J pc lv [vL x] μ := fun b hb => ra_lret hd hr (by cases hb; exact hJ)
theorem sr_aret {l : Launch} {G : Nv} {Sh : Shp} {M : MD} {pc : Nat} {lv : List (Option MV)} {μ : Mem} {β : Type} {r : β} {J : β → Option MV × Mem} {x : Nat} {C : String} (hd : decode M.2.1 pc = .ok (.areturn, 1)) (hr : M.2.2.2.1 = some (.object C)) (hJ : (some (vR x), μ) = J r) : SR l G Sh M (some r) J pc lv [vR x] μ := fun b hb => ra_aret hd hr (by cases hb; exact hJ)
/-- a method whose walk is told is one that is called -/
def SP {β : Type} (l : Launch) (G : Nv) (Sh : Shp) (M : MD) (as : List MV) (μ : Mem) (o : Option β) (J : β → Option MV × Mem) : Prop := ∀ b, o = some b → Sp l G Sh M as μ (fun r μ' => (r, μ') = J b)
theorem sp_sr {β : Type} {l : Launch} {G : Nv} {Sh : Shp} {M : MD} {as : List MV} {μ : Mem} {o : Option β} {J : β → Option MV × Mem} (hy : plainName M.1.cls = true) (hlen : (as.flatMap fun v => if catv v = 2 then [some v, none] else [some v]).length ≤ M.2.2.1) (h : SR l G Sh M o J 0 (ent as M.2.2.1) [] μ) : SP l G Sh M as μ o J := fun b hb => sp_of hy hlen (h b hb)
theorem sr_callV0_I {l : Launch} {G : Nv} {Sh : Shp} {M : MD} {β : Type} {J : β → Option MV × Mem} {pc pc' : Nat} {lv : List (Option MV)} {st : List MV} {μ : Mem} {M' : MD} {o' : Option (Int)} {kk : Int → Option β} {b : Nat} {idx : Nat} (hs : SP l G Sh M' [vR b] μ o' (jI μ)) (hd : decode M.2.1 pc = .ok (.invokevirtual idx, 3)) (hp : pc + 3 = pc') (hg : MGood M' 0) (hi : MInst M') (hb : Recv Sh b M'.1.cls) (hf : MFits M M') (hw : Cond.methodLink M.1.cls idx M'.1 ∈ TBL) (hst : (st.map catv).sum ≤ 8) (k : ∀ v, o' = some v → C32 v → (M'.2.2.2.1 = some .boolean → v = 0 ∨ v = 1) → SR l G Sh M (kk v) J pc' lv (vI v :: st) μ) : SR l G Sh M (o'.bind kk) J pc lv (vR b :: st) μ := fun b0 hb0 => by
  subst hp
  obtain ⟨v, hv, hkk⟩ := Option.bind_eq_some_iff.mp hb0
  exact ra_callV (as := []) (hs v hv) hd hg hi hb hf hw rfl hst (fun r μ' hq ho => by
  cases hq
  exact k _ hv ho.1 (fun h => by obtain ⟨x, hx, h01⟩ := ho.2 h; cases hx; exact h01) b0 hkk)
theorem sr_callV0_L {l : Launch} {G : Nv} {Sh : Shp} {M : MD} {β : Type} {J : β → Option MV × Mem} {pc pc' : Nat} {lv : List (Option MV)} {st : List MV} {μ : Mem} {M' : MD} {o' : Option (Int)} {kk : Int → Option β} {b : Nat} {idx : Nat} (hs : SP l G Sh M' [vR b] μ o' (jL μ)) (hd : decode M.2.1 pc = .ok (.invokevirtual idx, 3)) (hp : pc + 3 = pc') (hg : MGood M' 0) (hi : MInst M') (hb : Recv Sh b M'.1.cls) (hf : MFits M M') (hw : Cond.methodLink M.1.cls idx M'.1 ∈ TBL) (hst : (st.map catv).sum ≤ 8) (k : ∀ v, o' = some v → C64 v → SR l G Sh M (kk v) J pc' lv (vL v :: st) μ) : SR l G Sh M (o'.bind kk) J pc lv (vR b :: st) μ := fun b0 hb0 => by
  subst hp
  obtain ⟨v, hv, hkk⟩ := Option.bind_eq_some_iff.mp hb0
  exact ra_callV (as := []) (hs v hv) hd hg hi hb hf hw rfl hst (fun r μ' hq ho => by
  cases hq
  exact k _ hv ho.1 b0 hkk)
theorem sr_callV0_R {l : Launch} {G : Nv} {Sh : Shp} {M : MD} {β : Type} {J : β → Option MV × Mem} {pc pc' : Nat} {lv : List (Option MV)} {st : List MV} {μ : Mem} {M' : MD} {o' : Option (Nat)} {kk : Nat → Option β} {b : Nat} {idx : Nat} (hs : SP l G Sh M' [vR b] μ o' (jR μ)) (hd : decode M.2.1 pc = .ok (.invokevirtual idx, 3)) (hp : pc + 3 = pc') (hg : MGood M' 0) (hi : MInst M') (hb : Recv Sh b M'.1.cls) (hf : MFits M M') (hw : Cond.methodLink M.1.cls idx M'.1 ∈ TBL) (hst : (st.map catv).sum ≤ 8) (k : ∀ v, o' = some v → SR l G Sh M (kk v) J pc' lv (vR v :: st) μ) : SR l G Sh M (o'.bind kk) J pc lv (vR b :: st) μ := fun b0 hb0 => by
  subst hp
  obtain ⟨v, hv, hkk⟩ := Option.bind_eq_some_iff.mp hb0
  exact ra_callV (as := []) (hs v hv) hd hg hi hb hf hw rfl hst (fun r μ' hq ho => by
  cases hq
  exact k _ hv b0 hkk)
theorem sr_callV0_U {l : Launch} {G : Nv} {Sh : Shp} {M : MD} {β : Type} {J : β → Option MV × Mem} {pc pc' : Nat} {lv : List (Option MV)} {st : List MV} {μ : Mem} {M' : MD} {o' : Option (Unit)} {kk : Unit → Option β} {b : Nat} {idx : Nat} (hs : SP l G Sh M' [vR b] μ o' (jU μ)) (hd : decode M.2.1 pc = .ok (.invokevirtual idx, 3)) (hp : pc + 3 = pc') (hg : MGood M' 0) (hi : MInst M') (hb : Recv Sh b M'.1.cls) (hf : MFits M M') (hw : Cond.methodLink M.1.cls idx M'.1 ∈ TBL) (hst : (st.map catv).sum ≤ 8) (k : ∀ v, o' = some v → SR l G Sh M (kk v) J pc' lv (st) μ) : SR l G Sh M (o'.bind kk) J pc lv (vR b :: st) μ := fun b0 hb0 => by
  subst hp
  obtain ⟨v, hv, hkk⟩ := Option.bind_eq_some_iff.mp hb0
  exact ra_callV (as := []) (hs v hv) hd hg hi hb hf hw rfl hst (fun r μ' hq ho => by
  cases hq
  exact k _ hv b0 hkk)
theorem sr_callV0_IM {l : Launch} {G : Nv} {Sh : Shp} {M : MD} {β : Type} {J : β → Option MV × Mem} {pc pc' : Nat} {lv : List (Option MV)} {st : List MV} {μ : Mem} {M' : MD} {o' : Option (Int × Mem)} {kk : Int × Mem → Option β} {b : Nat} {idx : Nat} (hs : SP l G Sh M' [vR b] μ o' (jIM)) (hd : decode M.2.1 pc = .ok (.invokevirtual idx, 3)) (hp : pc + 3 = pc') (hg : MGood M' 0) (hi : MInst M') (hb : Recv Sh b M'.1.cls) (hf : MFits M M') (hw : Cond.methodLink M.1.cls idx M'.1 ∈ TBL) (hst : (st.map catv).sum ≤ 8) (k : ∀ v, o' = some v → C32 v.1 → (M'.2.2.2.1 = some .boolean → v.1 = 0 ∨ v.1 = 1) → SR l G Sh M (kk v) J pc' lv (vI v.1 :: st) v.2) : SR l G Sh M (o'.bind kk) J pc lv (vR b :: st) μ := fun b0 hb0 => by
  subst hp
  obtain ⟨v, hv, hkk⟩ := Option.bind_eq_some_iff.mp hb0
  exact ra_callV (as := []) (hs v hv) hd hg hi hb hf hw rfl hst (fun r μ' hq ho => by
  cases hq
  exact k _ hv ho.1 (fun h => by obtain ⟨x, hx, h01⟩ := ho.2 h; cases hx; exact h01) b0 hkk)
theorem sr_callV0_M {l : Launch} {G : Nv} {Sh : Shp} {M : MD} {β : Type} {J : β → Option MV × Mem} {pc pc' : Nat} {lv : List (Option MV)} {st : List MV} {μ : Mem} {M' : MD} {o' : Option (Mem)} {kk : Mem → Option β} {b : Nat} {idx : Nat} (hs : SP l G Sh M' [vR b] μ o' (jM)) (hd : decode M.2.1 pc = .ok (.invokevirtual idx, 3)) (hp : pc + 3 = pc') (hg : MGood M' 0) (hi : MInst M') (hb : Recv Sh b M'.1.cls) (hf : MFits M M') (hw : Cond.methodLink M.1.cls idx M'.1 ∈ TBL) (hst : (st.map catv).sum ≤ 8) (k : ∀ v, o' = some v → SR l G Sh M (kk v) J pc' lv (st) v) : SR l G Sh M (o'.bind kk) J pc lv (vR b :: st) μ := fun b0 hb0 => by
  subst hp
  obtain ⟨v, hv, hkk⟩ := Option.bind_eq_some_iff.mp hb0
  exact ra_callV (as := []) (hs v hv) hd hg hi hb hf hw rfl hst (fun r μ' hq ho => by
  cases hq
  exact k _ hv b0 hkk)
theorem sr_callV1_I {l : Launch} {G : Nv} {Sh : Shp} {M : MD} {β : Type} {J : β → Option MV × Mem} {pc pc' : Nat} {lv : List (Option MV)} {st : List MV} {μ : Mem} {M' : MD} {o' : Option (Int)} {kk : Int → Option β} {a0 : MV} {b : Nat} {idx : Nat} (hs : SP l G Sh M' [vR b, a0] μ o' (jI μ)) (hd : decode M.2.1 pc = .ok (.invokevirtual idx, 3)) (hp : pc + 3 = pc') (hg : MGood M' 1) (hi : MInst M') (hb : Recv Sh b M'.1.cls) (hf : MFits M M') (hw : Cond.methodLink M.1.cls idx M'.1 ∈ TBL) (hst : (st.map catv).sum ≤ 8) (k : ∀ v, o' = some v → C32 v → (M'.2.2.2.1 = some .boolean → v = 0 ∨ v = 1) → SR l G Sh M (kk v) J pc' lv (vI v :: st) μ) : SR l G Sh M (o'.bind kk) J pc lv (a0 :: vR b :: st) μ := fun b0 hb0 => by
  subst hp
  obtain ⟨v, hv, hkk⟩ := Option.bind_eq_some_iff.mp hb0
  exact ra_callV (as := [a0]) (hs v hv) hd hg hi hb hf hw rfl hst (fun r μ' hq ho => by
  cases hq
  exact k _ hv ho.1 (fun h => by obtain ⟨x, hx, h01⟩ := ho.2 h; cases hx; exact h01) b0 hkk)
theorem sr_callV1_L {l : Launch} {G : Nv} {Sh : Shp} {M : MD} {β : Type} {J : β → Option MV × Mem} {pc pc' : Nat} {lv : List (Option MV)} {st : List MV} {μ : Mem} {M' : MD} {o' : Option (Int)} {kk : Int → Option β} {a0 : MV} {b : Nat} {idx : Nat} (hs : SP l G Sh M' [vR b, a0] μ o' (jL μ)) (hd : decode M.2.1 pc = .ok (.invokevirtual idx, 3)) (hp : pc + 3 = pc') (hg : MGood M' 1) (hi : MInst M') (hb : Recv Sh b M'.1.cls) (hf : MFits M M') (hw : Cond.methodLink M.1.cls idx M'.1 ∈ TBL) (hst : (st.map catv).sum ≤ 8) (k : ∀ v, o' = some v → C64 v → SR l G Sh M (kk v) J pc' lv (vL v :: st) μ) : SR l G Sh M (o'.bind kk) J pc lv (a0 :: vR b :: st) μ := fun b0 hb0 => by
  subst hp
  obtain ⟨v, hv, hkk⟩ := Option.bind_eq_some_iff.mp hb0
  exact ra_callV (as := [a0]) (hs v hv) hd hg hi hb hf hw rfl hst (fun r μ' hq ho => by
  cases hq
  exact k _ hv ho.1 b0 hkk)
theorem sr_callV1_R {l : Launch} {G : Nv} {Sh : Shp} {M : MD} {β : Type} {J : β → Option MV × Mem} {pc pc' : Nat} {lv : List (Option MV)} {st : List MV} {μ : Mem} {M' : MD} {o' : Option (Nat)} {kk : Nat → Option β} {a0 : MV} {b : Nat} {idx : Nat} (hs : SP l G Sh M' [vR b, a0] μ o' (jR μ)) (hd : decode M.2.1 pc = .ok (.invokevirtual idx, 3)) (hp : pc + 3 = pc') (hg : MGood M' 1) (hi : MInst M') (hb : Recv Sh b M'.1.cls) (hf : MFits M M') (hw : Cond.methodLink M.1.cls idx M'.1 ∈ TBL) (hst : (st.map catv).sum ≤ 8) (k : ∀ v, o' = some v → SR l G Sh M (kk v) J pc' lv (vR v :: st) μ) : SR l G Sh M (o'.bind kk) J pc lv (a0 :: vR b :: st) μ := fun b0 hb0 => by
  subst hp
  obtain ⟨v, hv, hkk⟩ := Option.bind_eq_some_iff.mp hb0
  exact ra_callV (as := [a0]) (hs v hv) hd hg hi hb hf hw rfl hst (fun r μ' hq ho => by
  cases hq
  exact k _ hv b0 hkk)
theorem sr_callV1_U {l : Launch} {G : Nv} {Sh : Shp} {M : MD} {β : Type} {J : β → Option MV × Mem} {pc pc' : Nat} {lv : List (Option MV)} {st : List MV} {μ : Mem} {M' : MD} {o' : Option (Unit)} {kk : Unit → Option β} {a0 : MV} {b : Nat} {idx : Nat} (hs : SP l G Sh M' [vR b, a0] μ o' (jU μ)) (hd : decode M.2.1 pc = .ok (.invokevirtual idx, 3)) (hp : pc + 3 = pc') (hg : MGood M' 1) (hi : MInst M') (hb : Recv Sh b M'.1.cls) (hf : MFits M M') (hw : Cond.methodLink M.1.cls idx M'.1 ∈ TBL) (hst : (st.map catv).sum ≤ 8) (k : ∀ v, o' = some v → SR l G Sh M (kk v) J pc' lv (st) μ) : SR l G Sh M (o'.bind kk) J pc lv (a0 :: vR b :: st) μ := fun b0 hb0 => by
  subst hp
  obtain ⟨v, hv, hkk⟩ := Option.bind_eq_some_iff.mp hb0
  exact ra_callV (as := [a0]) (hs v hv) hd hg hi hb hf hw rfl hst (fun r μ' hq ho => by
  cases hq
  exact k _ hv b0 hkk)
theorem sr_callV1_IM {l : Launch} {G : Nv} {Sh : Shp} {M : MD} {β : Type} {J : β → Option MV × Mem} {pc pc' : Nat} {lv : List (Option MV)} {st : List MV} {μ : Mem} {M' : MD} {o' : Option (Int × Mem)} {kk : Int × Mem → Option β} {a0 : MV} {b : Nat} {idx : Nat} (hs : SP l G Sh M' [vR b, a0] μ o' (jIM)) (hd : decode M.2.1 pc = .ok (.invokevirtual idx, 3)) (hp : pc + 3 = pc') (hg : MGood M' 1) (hi : MInst M') (hb : Recv Sh b M'.1.cls) (hf : MFits M M') (hw : Cond.methodLink M.1.cls idx M'.1 ∈ TBL) (hst : (st.map catv).sum ≤ 8) (k : ∀ v, o' = some v → C32 v.1 → (M'.2.2.2.1 = some .boolean → v.1 = 0 ∨ v.1 = 1) → SR l G Sh M (kk v) J pc' lv (vI v.1 :: st) v.2) : SR l G Sh M (o'.bind kk) J pc lv (a0 :: vR b :: st) μ := fun b0 hb0 => by
  subst hp
  obtain ⟨v, hv, hkk⟩ := Option.bind_eq_some_iff.mp hb0
  exact ra_callV (as := [a0]) (hs v hv) hd hg hi hb hf hw rfl hst (fun r μ' hq ho => by
  cases hq
  exact k _ hv ho.1 (fun h => by obtain ⟨x, hx, h01⟩ := ho.2 h; cases hx; exact h01) b0 hkk)
theorem sr_callV1_M {l : Launch} {G : Nv} {Sh : Shp} {M : MD} {β : Type} {J : β → Option MV × Mem} {pc pc' : Nat} {lv : List (Option MV)} {st : List MV} {μ : Mem} {M' : MD} {o' : Option (Mem)} {kk : Mem → Option β} {a0 : MV} {b : Nat} {idx : Nat} (hs : SP l G Sh M' [vR b, a0] μ o' (jM)) (hd : decode M.2.1 pc = .ok (.invokevirtual idx, 3)) (hp : pc + 3 = pc') (hg : MGood M' 1) (hi : MInst M') (hb : Recv Sh b M'.1.cls) (hf : MFits M M') (hw : Cond.methodLink M.1.cls idx M'.1 ∈ TBL) (hst : (st.map catv).sum ≤ 8) (k : ∀ v, o' = some v → SR l G Sh M (kk v) J pc' lv (st) v) : SR l G Sh M (o'.bind kk) J pc lv (a0 :: vR b :: st) μ := fun b0 hb0 => by
  subst hp
  obtain ⟨v, hv, hkk⟩ := Option.bind_eq_some_iff.mp hb0
  exact ra_callV (as := [a0]) (hs v hv) hd hg hi hb hf hw rfl hst (fun r μ' hq ho => by
  cases hq
  exact k _ hv b0 hkk)
theorem sr_callV2_I {l : Launch} {G : Nv} {Sh : Shp} {M : MD} {β : Type} {J : β → Option MV × Mem} {pc pc' : Nat} {lv : List (Option MV)} {st : List MV} {μ : Mem} {M' : MD} {o' : Option (Int)} {kk : Int → Option β} {a0 a1 : MV} {b : Nat} {idx : Nat} (hs : SP l G Sh M' [vR b, a0, a1] μ o' (jI μ)) (hd : decode M.2.1 pc = .ok (.invokevirtual idx, 3)) (hp : pc + 3 = pc') (hg : MGood M' 2) (hi : MInst M') (hb : Recv Sh b M'.1.cls) (hf : MFits M M') (hw : Cond.methodLink M.1.cls idx M'.1 ∈ TBL) (hst : (st.map catv).sum ≤ 8) (k : ∀ v, o' = some v → C32 v → (M'.2.2.2.1 = some .boolean → v = 0 ∨ v = 1) → SR l G Sh M (kk v) J pc' lv (vI v :: st) μ) : SR l G Sh M (o'.bind kk) J pc lv (a1 :: a0 :: vR b :: st) μ := fun b0 hb0 => by
  subst hp
  obtain ⟨v, hv, hkk⟩ := Option.bind_eq_some_iff.mp hb0
  exact ra_callV (as := [a0, a1]) (hs v hv) hd hg hi hb hf hw rfl hst (fun r μ' hq ho => by
  cases hq
  exact k _ hv ho.1 (fun h => by obtain ⟨x, hx, h01⟩ := ho.2 h; cases hx; exact h01) b0 hkk)
theorem sr_callV2_L {l : Launch} {G : Nv} {Sh : Shp} {M : MD} {β : Type} {J : β → Option MV × Mem} {pc pc' : Nat} {lv : List (Option MV)} {st : List MV} {μ : Mem} {M' : MD} {o' : Option (Int)} {kk : Int → Option β} {a0 a1 : MV} {b : Nat} {idx : Nat} (hs : SP l G Sh M' [vR b, a0, a1] μ o' (jL μ)) (hd : decode M.2.1 pc = .ok (.invokevirtual idx, 3)) (hp : pc + 3 = pc') (hg : MGood M' 2) (hi : MInst M') (hb : Recv Sh b M'.1.cls) (hf : MFits M M') (hw : Cond.methodLink M.1.cls idx M'.1 ∈ TBL) (hst : (st.map catv).sum ≤ 8) (k : ∀ v, o' = some v → C64 v → SR l G Sh M (kk v) J pc' lv (vL v :: st) μ) : SR l G Sh M (o'.bind kk) J pc lv (a1 :: a0 :: vR b :: st) μ := fun b0 hb0 => by
  subst hp
  obtain ⟨v, hv, hkk⟩ := Option.bind_eq_some_iff.mp hb0
  exact ra_callV (as := [a0, a1]) (hs v hv) hd hg hi hb hf hw rfl hst (fun r μ' hq ho => by
  cases hq
  exact k _ hv ho.1 b0 hkk)
theorem sr_callV2_R {l : Launch} {G : Nv} {Sh : Shp} {M : MD} {β : Type} {J : β → Option MV × Mem} {pc pc' : Nat} {lv : List (Option MV)} {st : List MV} {μ : Mem} {M' : MD} {o' : Option (Nat)} {kk : Nat → Option β} {a0 a1 : MV} {b : Nat} {idx : Nat} (hs : SP l G Sh M' [vR b, a0, a1] μ o' (jR μ)) (hd : decode M.2.1 pc = .ok (.invokevirtual idx, 3)) (hp : pc + 3 = pc') (hg : MGood M' 2) (hi : MInst M') (hb : Recv Sh b M'.1.cls) (hf : MFits M M') (hw : Cond.methodLink M.1.cls idx M'.1 ∈ TBL) (hst : (st.map catv).sum ≤ 8) (k : ∀ v, o' = some v → SR l G Sh M (kk v) J pc' lv (vR v :: st) μ) : SR l G Sh M (o'.bind kk) J pc lv (a1 :: a0 :: vR b :: st) μ := fun b0 hb0 => by
  subst hp
  obtain ⟨v, hv, hkk⟩ := Option.bind_eq_some_iff.mp hb0
  exact ra_callV (as := [a0, a1]) (hs v hv) hd hg hi hb hf hw rfl hst (fun r μ' hq ho => by
  cases hq
  exact k _ hv b0 hkk)
theorem sr_callV2_U {l : Launch} {G : Nv} {Sh : Shp} {M : MD} {β : Type} {J : β → Option MV × Mem} {pc pc' : Nat} {lv : List (Option MV)} {st : List MV} {μ : Mem} {M' : MD} {o' : Option (Unit)} {kk : Unit → Option β} {a0 a1 : MV} {b : Nat} {idx : Nat} (hs : SP l G Sh M' [vR b, a0, a1] μ o' (jU μ)) (hd : decode M.2.1 pc = .ok (.invokevirtual idx, 3)) (hp : pc + 3 = pc') (hg : MGood M' 2) (hi : MInst M') (hb : Recv Sh b M'.1.cls) (hf : MFits M M') (hw : Cond.methodLink M.1.cls idx M'.1 ∈ TBL) (hst : (st.map catv).sum ≤ 8) (k : ∀ v, o' = some v → SR l G Sh M (kk v) J pc' lv (st) μ) : SR l G Sh M (o'.bind kk) J pc lv (a1 :: a0 :: vR b :: st) μ := fun b0 hb0 => by
  subst hp
  obtain ⟨v, hv, hkk⟩ := Option.bind_eq_some_iff.mp hb0
  exact ra_callV (as := [a0, a1]) (hs v hv) hd hg hi hb hf hw rfl hst (fun r μ' hq ho => by
  cases hq
  exact k _ hv b0 hkk)
theorem sr_callV2_IM {l : Launch} {G : Nv} {Sh : Shp} {M : MD} {β : Type} {J : β → Option MV × Mem} {pc pc' : Nat} {lv : List (Option MV)} {st : List MV} {μ : Mem} {M' : MD} {o' : Option (Int × Mem)} {kk : Int × Mem → Option β} {a0 a1 : MV} {b : Nat} {idx : Nat} (hs : SP l G Sh M' [vR b, a0, a1] μ o' (jIM)) (hd : decode M.2.1 pc = .ok (.invokevirtual idx, 3)) (hp : pc + 3 = pc') (hg : MGood M' 2) (hi : MInst M') (hb : Recv Sh b M'.1.cls) (hf : MFits M M') (hw : Cond.methodLink M.1.cls idx M'.1 ∈ TBL) (hst : (st.map catv).sum ≤ 8) (k : ∀ v, o' = some v → C32 v.1 → (M'.2.2.2.1 = some .boolean → v.1 = 0 ∨ v.1 = 1) → SR l G Sh M (kk v) J pc' lv (vI v.1 :: st) v.2) : SR l G Sh M (o'.bind kk) J pc lv (a1 :: a0 :: vR b :: st) μ := fun b0 hb0 => by
  subst hp
  obtain ⟨v, hv, hkk⟩ := Option.bind_eq_some_iff.mp hb0
  exact ra_callV (as := [a0, a1]) (hs v hv) hd hg hi hb hf hw rfl hst (fun r μ' hq ho => by
  cases hq
  exact k _ hv ho.1 (fun h => by obtain ⟨x, hx, h01⟩ := ho.2 h; cases hx; exact h01) b0 hkk)
theorem sr_callV2_M {l : Launch} {G : Nv} {Sh : Shp} {M : MD} {β : Type} {J : β → Option MV × Mem} {pc pc' : Nat} {lv : List (Option MV)} {st : List MV} {μ : Mem} {M' : MD} {o' : Option (Mem)} {kk : Mem → Option β} {a0 a1 : MV} {b : Nat} {idx : Nat} (hs : SP l G Sh M' [vR b, a0, a1] μ o' (jM)) (hd : decode M.2.1 pc = .ok (.invokevirtual idx, 3)) (hp : pc + 3 = pc') (hg : MGood M' 2) (hi : MInst M') (hb : Recv Sh b M'.1.cls) (hf : MFits M M') (hw : Cond.methodLink M.1.cls idx M'.1 ∈ TBL) (hst : (st.map catv).sum ≤ 8) (k : ∀ v, o' = some v → SR l G Sh M (kk v) J pc' lv (st) v) : SR l G Sh M (o'.bind kk) J pc lv (a1 :: a0 :: vR b :: st) μ := fun b0 hb0 => by
  subst hp
  obtain ⟨v, hv, hkk⟩ := Option.bind_eq_some_iff.mp hb0
  exact ra_callV (as := [a0, a1]) (hs v hv) hd hg hi hb hf hw rfl hst (fun r μ' hq ho => by
  cases hq
  exact k _ hv b0 hkk)
theorem sr_callV3_I {l : Launch} {G : Nv} {Sh : Shp} {M : MD} {β : Type} {J : β → Option MV × Mem} {pc pc' : Nat} {lv : List (Option MV)} {st : List MV} {μ : Mem} {M' : MD} {o' : Option (Int)} {kk : Int → Option β} {a0 a1 a2 : MV} {b : Nat} {idx : Nat} (hs : SP l G Sh M' [vR b, a0, a1, a2] μ o' (jI μ)) (hd : decode M.2.1 pc = .ok (.invokevirtual idx, 3)) (hp : pc + 3 = pc') (hg : MGood M' 3) (hi : MInst M') (hb : Recv Sh b M'.1.cls) (hf : MFits M M') (hw : Cond.methodLink M.1.cls idx M'.1 ∈ TBL) (hst : (st.map catv).sum ≤ 8) (k : ∀ v, o' = some v → C32 v → (M'.2.2.2.1 = some .boolean → v = 0 ∨ v = 1) → SR l G Sh M (kk v) J pc' lv (vI v :: st) μ) : SR l G Sh M (o'.bind kk) J pc lv (a2 :: a1 :: a0 :: vR b :: st) μ := fun b0 hb0 => by
  subst hp
  obtain ⟨v, hv, hkk⟩ := Option.bind_eq_some_iff.mp hb0
  exact ra_callV (as := [a0, a1, a2]) (hs v hv) hd hg hi hb hf hw rfl hst (fun r μ' hq ho => by
  cases hq
  exact k _ hv ho.1 (fun h => by obtain ⟨x, hx, h01⟩ := ho.2 h; cases hx; exact h01) b0 hkk)
theorem sr_callV3_L {l : Launch} {G : Nv} {Sh : Shp} {M : MD} {β : Type} {J : β → Option MV × Mem} {pc pc' : Nat} {lv : List (Option MV)} {st : List MV} {μ : Mem} {M' : MD} {o' : Option (Int)} {kk : Int → Option β} {a0 a1 a2 : MV} {b : Nat} {idx : Nat} (hs : SP l G Sh M' [vR b, a0, a1, a2] μ o' (jL μ)) (hd : decode M.2.1 pc = .ok (.invokevirtual idx, 3)) (hp : pc + 3 = pc') (hg : MGood M' 3) (hi : MInst M') (hb : Recv Sh b M'.1.cls) (hf : MFits M M') (hw : Cond.methodLink M.1.cls idx M'.1 ∈ TBL) (hst : (st.map catv).sum ≤ 8) (k : ∀ v, o' = some v → C64 v → SR l G Sh M (kk v) J pc' lv (vL v :: st) μ) : SR l G Sh M (o'.bind kk) J pc lv (a2 :: a1 :: a0 :: vR b :: st) μ := fun b0 hb0 => by
  subst hp
  obtain ⟨v, hv, hkk⟩ := Option.bind_eq_some_iff.mp hb0
  exact ra_callV (as := [a0, a1, a2]) (hs v hv) hd hg hi hb hf hw rfl hst (fun r μ' hq ho => by
  cases hq
  exact k _ hv ho.1 b0 hkk)
theorem sr_callV3_R {l : Launch} {G : Nv} {Sh : Shp} {M : MD} {β : Type} {J : β → Option MV × Mem} {pc pc' : Nat} {lv : List (Option MV)} {st : List MV} {μ : Mem} {M' : MD} {o' : Option (Nat)} {kk : Nat → Option β} {a0 a1 a2 : MV} {b : Nat} {idx : Nat} (hs : SP l G Sh M' [vR b, a0, a1, a2] μ o' (jR μ)) (hd : decode M.2.1 pc = .ok (.invokevirtual idx, 3)) (hp : pc + 3 = pc') (hg : MGood M' 3) (hi : MInst M') (hb : Recv Sh b M'.1.cls) (hf : MFits M M') (hw : Cond.methodLink M.1.cls idx M'.1 ∈ TBL) (hst : (st.map catv).sum ≤ 8) (k : ∀ v, o' = some v → SR l G Sh M (kk v) J pc' lv (vR v :: st) μ) : SR l G Sh M (o'.bind kk) J pc lv (a2 :: a1 :: a0 :: vR b :: st) μ := fun b0 hb0 => by
  subst hp
  obtain ⟨v, hv, hkk⟩ := Option.bind_eq_some_iff.mp hb0
  exact ra_callV (as := [a0, a1, a2]) (hs v hv) hd hg hi hb hf hw rfl hst (fun r μ' hq ho => by
  cases hq
  exact k _ hv b0 hkk)
theorem sr_callV3_U {l : Launch} {G : Nv} {Sh : Shp} {M : MD} {β : Type} {J : β → Option MV × Mem} {pc pc' : Nat} {lv : List (Option MV)} {st : List MV} {μ : Mem} {M' : MD} {o' : Option (Unit)} {kk : Unit → Option β} {a0 a1 a2 : MV} {b : Nat} {idx : Nat} (hs : SP l G Sh M' [vR b, a0, a1, a2] μ o' (jU μ)) (hd : decode M.2.1 pc = .ok (.invokevirtual idx, 3)) (hp : pc + 3 = pc') (hg : MGood M' 3) (hi : MInst M') (hb : Recv Sh b M'.1.cls) (hf : MFits M M') (hw : Cond.methodLink M.1.cls idx M'.1 ∈ TBL) (hst : (st.map catv).sum ≤ 8) (k : ∀ v, o' = some v → SR l G Sh M (kk v) J pc' lv (st) μ) : SR l G Sh M (o'.bind kk) J pc lv (a2 :: a1 :: a0 :: vR b :: st) μ := fun b0 hb0 => by
  subst hp
  obtain ⟨v, hv, hkk⟩ := Option.bind_eq_some_iff.mp hb0
  exact ra_callV (as := [a0, a1, a2]) (hs v hv) hd hg hi hb hf hw rfl hst (fun r μ' hq ho => by
  cases hq
  exact k _ hv b0 hkk)
theorem sr_callV3_IM {l : Launch} {G : Nv} {Sh : Shp} {M : MD} {β : Type} {J : β → Option MV × Mem} {pc pc' : Nat} {lv : List (Option MV)} {st : List MV} {μ : Mem} {M' : MD} {o' : Option (Int × Mem)} {kk : Int × Mem → Option β} {a0 a1 a2 : MV} {b : Nat} {idx : Nat} (hs : SP l G Sh M' [vR b, a0, a1, a2] μ o' (jIM)) (hd : decode M.2.1 pc = .ok (.invokevirtual idx, 3)) (hp : pc + 3 = pc') (hg : MGood M' 3) (hi : MInst M') (hb : Recv Sh b M'.1.cls) (hf : MFits M M') (hw : Cond.methodLink M.1.cls idx M'.1 ∈ TBL) (hst : (st.map catv).sum ≤ 8) (k : ∀ v, o' = some v → C32 v.1 → (M'.2.2.2.1 = some .boolean → v.1 = 0 ∨ v.1 = 1) → SR l G Sh M (kk v) J pc' lv (vI v.1 :: st) v.2) : SR l G Sh M (o'.bind kk) J pc lv (a2 :: a1 :: a0 :: vR b :: st) μ := fun b0 hb0 => by
  subst hp
  obtain ⟨v, hv, hkk⟩ := Option.bind_eq_some_iff.mp hb0
  exact ra_callV (as := [a0, a1, a2]) (hs v hv) hd hg hi hb hf hw rfl hst (fun r μ' hq ho => by
  cases hq
  exact k _ hv ho.1 (fun h => by obtain ⟨x, hx, h01⟩ := ho.2 h; cases hx; exact h01) b0 hkk)
theorem sr_callV3_M {l : Launch} {G : Nv} {Sh : Shp} {M : MD} {β : Type} {J : β → Option MV × Mem} {pc pc' : Nat} {lv : List (Option MV)} {st : List MV} {μ : Mem} {M' : MD} {o' : Option (Mem)} {kk : Mem → Option β} {a0 a1 a2 : MV} {b : Nat} {idx : Nat} (hs : SP l G Sh M' [vR b, a0, a1, a2] μ o' (jM)) (hd : decode M.2.1 pc = .ok (.invokevirtual idx, 3)) (hp : pc + 3 = pc') (hg : MGood M' 3) (hi : MInst M') (hb : Recv Sh b M'.1.cls) (hf : MFits M M') (hw : Cond.methodLink M.1.cls idx M'.1 ∈ TBL) (hst : (st.map catv).sum ≤ 8) (k : ∀ v, o' = some v → SR l G Sh M (kk v) J pc' lv (st) v) : SR l G Sh M (o'.bind kk) J pc lv (a2 :: a1 :: a0 :: vR b :: st) μ := fun b0 hb0 => by
  subst hp
  obtain ⟨v, hv, hkk⟩ := Option.bind_eq_some_iff.mp hb0
  exact ra_callV (as := [a0, a1, a2]) (hs v hv) hd hg hi hb hf hw rfl hst (fun r μ' hq ho => by
  cases hq
  exact k _ hv b0 hkk)
theorem sr_callV4_I {l : Launch} {G : Nv} {Sh : Shp} {M : MD} {β : Type} {J : β → Option MV × Mem} {pc pc' : Nat} {lv : List (Option MV)} {st : List MV} {μ : Mem} {M' : MD} {o' : Option (Int)} {kk : Int → Option β} {a0 a1 a2 a3 : MV} {b : Nat} {idx : Nat} (hs : SP l G Sh M' [vR b, a0, a1, a2, a3] μ o' (jI μ)) (hd : decode M.2.1 pc = .ok (.invokevirtual idx, 3)) (hp : pc + 3 = pc') (hg : MGood M' 4) (hi : MInst M') (hb : Recv Sh b M'.1.cls) (hf : MFits M M') (hw : Cond.methodLink M.1.cls idx M'.1 ∈ TBL) (hst : (st.map catv).sum ≤ 8) (k : ∀ v, o' = some v → C32 v → (M'.2.2.2.1 = some .boolean → v = 0 ∨ v = 1) → SR l G Sh M (kk v) J pc' lv (vI v :: st) μ) : SR l G Sh M (o'.bind kk) J pc lv (a3 :: a2 :: a1 :: a0 :: vR b :: st) μ := fun b0 hb0 => by
  subst hp
  obtain ⟨v, hv, hkk⟩ := Option.bind_eq_some_iff.mp hb0
  exact ra_callV (as := [a0, a1, a2, a3]) (hs v hv) hd hg hi hb hf hw rfl hst (fun r μ' hq ho => by
  cases hq
  exact k _ hv ho.1 (fun h => by obtain ⟨x, hx, h01⟩ := ho.2 h; cases hx; exact h01) b0 hkk)
theorem sr_callV4_L {l : Launch} {G : Nv} {Sh : Shp} {M : MD} {β : Type} {J : β → Option MV × Mem} {pc pc' : Nat} {lv : List (Option MV)} {st : List MV} {μ : Mem} {M' : MD} {o' : Option (Int)} {kk : Int → Option β} {a0 a1 a2 a3 : MV} {b : Nat} {idx : Nat} (hs : SP l G Sh M' [vR b, a0, a1, a2, a3] μ o' (jL μ)) (hd : decode M.2.1 pc = .ok (.invokevirtual idx, 3)) (hp : pc + 3 = pc') (hg : MGood M' 4) (hi : MInst M') (hb : Recv Sh b M'.1.cls) (hf : MFits M M') (hw : Cond.methodLink M.1.cls idx M'.1 ∈ TBL) (hst : (st.map catv).sum ≤ 8) (k : ∀ v, o' = some v → C64 v → SR l G Sh M (kk v) J pc' lv (vL v :: st) μ) : SR l G Sh M (o'.bind kk) J pc lv (a3 :: a2 :: a1 :: a0 :: vR b :: st) μ := fun b0 hb0 => by
  subst hp
  obtain ⟨v, hv, hkk⟩ := Option.bind_eq_some_iff.mp hb0
  exact ra_callV (as := [a0, a1, a2, a3]) (hs v hv) hd hg hi hb hf hw rfl hst (fun r μ' hq ho => by
  cases hq
  exact k _ hv ho.1 b0 hkk)
theorem sr_callV4_R {l : Launch} {G : Nv} {Sh : Shp} {M : MD} {β : Type} {J : β → Option MV × Mem} {pc pc' : Nat} {lv : List (Option MV)} {st : List MV} {μ : Mem} {M' : MD} {o' : Option (Nat)} {kk : Nat → Option β} {a0 a1 a2 a3 : MV} {b : Nat} {idx : Nat} (hs : SP l G Sh M' [vR b, a0, a1, a2, a3] μ o' (jR μ)) (hd : decode M.2.1 pc = .ok (.invokevirtual idx, 3)) (hp : pc + 3 = pc') (hg : MGood M' 4) (hi : MInst M') (hb : Recv Sh b M'.1.cls) (hf : MFits M M') (hw : Cond.methodLink M.1.cls idx M'.1 ∈ TBL) (hst : (st.map catv).sum ≤ 8) (k : ∀ v, o' = some v → SR l G Sh M (kk v) J pc' lv (vR v :: st) μ) : SR l G Sh M (o'.bind kk) J pc lv (a3 :: a2 :: a1 :: a0 :: vR b :: st) μ := fun b0 hb0 => by
  subst hp
  obtain ⟨v, hv, hkk⟩ := Option.bind_eq_some_iff.mp hb0
  exact ra_callV (as := [a0, a1, a2, a3]) (hs v hv) hd hg hi hb hf hw rfl hst (fun r μ' hq ho => by
  cases hq
  exact k _ hv b0 hkk)
theorem sr_callV4_U {l : Launch} {G : Nv} {Sh : Shp} {M : MD} {β : Type} {J : β → Option MV × Mem} {pc pc' : Nat} {lv : List (Option MV)} {st : List MV} {μ : Mem} {M' : MD} {o' : Option (Unit)} {kk : Unit → Option β} {a0 a1 a2 a3 : MV} {b : Nat} {idx : Nat} (hs : SP l G Sh M' [vR b, a0, a1, a2, a3] μ o' (jU μ)) (hd : decode M.2.1 pc = .ok (.invokevirtual idx, 3)) (hp : pc + 3 = pc') (hg : MGood M' 4) (hi : MInst M') (hb : Recv Sh b M'.1.cls) (hf : MFits M M') (hw : Cond.methodLink M.1.cls idx M'.1 ∈ TBL) (hst : (st.map catv).sum ≤ 8) (k : ∀ v, o' = some v → SR l G Sh M (kk v) J pc' lv (st) μ) : SR l G Sh M (o'.bind kk) J pc lv (a3 :: a2 :: a1 :: a0 :: vR b :: st) μ := fun b0 hb0 => by
  subst hp
  obtain ⟨v, hv, hkk⟩ := Option.bind_eq_some_iff.mp hb0
  exact ra_callV (as := [a0, a1, a2, a3]) (hs v hv) hd hg hi hb hf hw rfl hst (fun r μ' hq ho => by
  cases hq
  exact k _ hv b0 hkk)
theorem sr_callV4_IM {l : Launch} {G : Nv} {Sh : Shp} {M : MD} {β : Type} {J : β → Option MV × Mem} {pc pc' : Nat} {lv : List (Option MV)} {st : List MV} {μ : Mem} {M' : MD} {o' : Option (Int × Mem)} {kk : Int × Mem → Option β} {a0 a1 a2 a3 : MV} {b : Nat} {idx : Nat} (hs : SP l G Sh M' [vR b, a0, a1, a2, a3] μ o' (jIM)) (hd : decode M.2.1 pc = .ok (.invokevirtual idx, 3)) (hp : pc + 3 = pc') (hg : MGood M' 4) (hi : MInst M') (hb : Recv Sh b M'.1.cls) (hf : MFits M M') (hw : Cond.methodLink M.1.cls idx M'.1 ∈ TBL) (hst : (st.map catv).sum ≤ 8) (k : ∀ v, o' = some v → C32 v.1 → (M'.2.2.2.1 = some .boolean → v.1 = 0 ∨ v.1 = 1) → SR l G Sh M (kk v) J pc' lv (vI v.1 :: st) v.2) : SR l G Sh M (o'.bind kk) J pc lv (a3 :: a2 :: a1 :: a0 :: vR b :: st) μ := fun b0 hb0 => by
  subst hp
  obtain ⟨v, hv, hkk⟩ := Option.bind_eq_some_iff.mp hb0
  exact ra_callV (as := [a0, a1, a2, a3]) (hs v hv) hd hg hi hb hf hw rfl hst (fun r μ' hq ho => by
  cases hq
  exact k _ hv ho.1 (fun h => by obtain ⟨x, hx, h01⟩ := ho.2 h; cases hx; exact h01) b0 hkk)
theorem sr_callV4_M {l : Launch} {G : Nv} {Sh : Shp} {M : MD} {β : Type} {J : β → Option MV × Mem} {pc pc' : Nat} {lv : List (Option MV)} {st : List MV} {μ : Mem} {M' : MD} {o' : Option (Mem)} {kk : Mem → Option β} {a0 a1 a2 a3 : MV} {b : Nat} {idx : Nat} (hs : SP l G Sh M' [vR b, a0, a1, a2, a3] μ o' (jM)) (hd : decode M.2.1 pc = .ok (.invokevirtual idx, 3)) (hp : pc + 3 = pc') (hg : MGood M' 4) (hi : MInst M') (hb : Recv Sh b M'.1.cls) (hf : MFits M M') (hw : Cond.methodLink M.1.cls idx M'.1 ∈ TBL) (hst : (st.map catv).sum ≤ 8) (k : ∀ v, o' = some v → SR l G Sh M (kk v) J pc' lv (st) v) : SR l G Sh M (o'.bind kk) J pc lv (a3 :: a2 :: a1 :: a0 :: vR b :: st) μ := fun b0 hb0 => by
  subst hp
  obtain ⟨v, hv, hkk⟩ := Option.bind_eq_some_iff.mp hb0
  exact ra_callV (as := [a0, a1, a2, a3]) (hs v hv) hd hg hi hb hf hw rfl hst (fun r μ' hq ho => by
  cases hq
  exact k _ hv b0 hkk)
theorem sr_callV5_I {l : Launch} {G : Nv} {Sh : Shp} {M : MD} {β : Type} {J : β → Option MV × Mem} {pc pc' : Nat} {lv : List (Option MV)} {st : List MV} {μ : Mem} {M' : MD} {o' : Option (Int)} {kk : Int → Option β} {a0 a1 a2 a3 a4 : MV} {b : Nat} {idx : Nat} (hs : SP l G Sh M' [vR b, a0, a1, a2, a3, a4] μ o' (jI μ)) (hd : decode M.2.1 pc = .ok (.invokevirtual idx, 3)) (hp : pc + 3 = pc') (hg : MGood M' 5) (hi : MInst M') (hb : Recv Sh b M'.1.cls) (hf : MFits M M') (hw : Cond.methodLink M.1.cls idx M'.1 ∈ TBL) (hst : (st.map catv).sum ≤ 8) (k : ∀ v, o' = some v → C32 v → (M'.2.2.2.1 = some .boolean → v = 0 ∨ v = 1) → SR l G Sh M (kk v) J pc' lv (vI v :: st) μ) : SR l G Sh M (o'.bind kk) J pc lv (a4 :: a3 :: a2 :: a1 :: a0 :: vR b :: st) μ := fun b0 hb0 => by
  subst hp
  obtain ⟨v, hv, hkk⟩ := Option.bind_eq_some_iff.mp hb0
  exact ra_callV (as := [a0, a1, a2, a3, a4]) (hs v hv) hd hg hi hb hf hw rfl hst (fun r μ' hq ho => by
  cases hq
  exact k _ hv ho.1 (fun h => by obtain ⟨x, hx, h01⟩ := ho.2 h; cases hx; exact h01) b0 hkk)
theorem sr_callV5_L {l : Launch} {G : Nv} {Sh : Shp} {M : MD} {β : Type} {J : β → Option MV × Mem} {pc pc' : Nat} {lv : List (Option MV)} {st : List MV} {μ : Mem} {M' : MD} {o' : Option (Int)} {kk : Int → Option β} {a0 a1 a2 a3 a4 : MV} {b : Nat} {idx : Nat} (hs : SP l G Sh M' [vR b, a0, a1, a2, a3, a4] μ o' (jL μ)) (hd : decode M.2.1 pc = .ok (.invokevirtual idx, 3)) (hp : pc + 3 = pc') (hg : MGood M' 5) (hi : MInst M') (hb : Recv Sh b M'.1.cls) (hf : MFits M M') (hw : Cond.methodLink M.1.cls idx M'.1 ∈ TBL) (hst : (st.map catv).sum ≤ 8) (k : ∀ v, o' = some v → C64 v → SR l G Sh M (kk v) J pc' lv (vL v :: st) μ) : SR l G Sh M (o'.bind kk) J pc lv (a4 :: a3 :: a2 :: a1 :: a0 :: vR b :: st) μ := fun b0 hb0 => by
  subst hp
  obtain ⟨v, hv, hkk⟩ := Option.bind_eq_some_iff.mp hb0
  exact ra_callV (as := [a0, a1, a2, a3, a4]) (hs v hv) hd hg hi hb hf hw rfl hst (fun r μ' hq ho => by
  cases hq
  exact k _ hv ho.1 b0 hkk)
theorem sr_callV5_R {l : Launch} {G : Nv} {Sh : Shp} {M : MD} {β : Type} {J : β → Option MV × Mem} {pc pc' : Nat} {lv : List (Option MV)} {st : List MV} {μ : Mem} {M' : MD} {o' : Option (Nat)} {kk : Nat → Option β} {a0 a1 a2 a3 a4 : MV} {b : Nat} {idx : Nat} (hs : SP l G Sh M' [vR b, a0, a1, a2, a3, a4] μ o' (jR μ)) (hd : decode M.2.1 pc = .ok (.invokevirtual idx, 3)) (hp : pc + 3 = pc') (hg : MGood M' 5) (hi : MInst M') (hb : Recv Sh b M'.1.cls) (hf : MFits M M') (hw : Cond.methodLink M.1.cls idx M'.1 ∈ TBL) (hst : (st.map catv).sum ≤ 8) (k : ∀ v, o' = some v → SR l G Sh M (kk v) J pc' lv (vR v :: st) μ) : SR l G Sh M (o'.bind kk) J pc lv (a4 :: a3 :: a2 :: a1 :: a0 :: vR b :: st) μ := fun b0 hb0 => by
  subst hp
  obtain ⟨v, hv, hkk⟩ := Option.bind_eq_some_iff.mp hb0
  exact ra_callV (as := [a0, a1, a2, a3, a4]) (hs v hv) hd hg hi hb hf hw rfl hst (fun r μ' hq ho => by
  cases hq
  exact k _ hv b0 hkk)
theorem sr_callV5_U {l : Launch} {G : Nv} {Sh : Shp} {M : MD} {β : Type} {J : β → Option MV × Mem} {pc pc' : Nat} {lv : List (Option MV)} {st : List MV} {μ : Mem} {M' : MD} {o' : Option (Unit)} {kk : Unit → Option β} {a0 a1 a2 a3 a4 : MV} {b : Nat} {idx : Nat} (hs : SP l G Sh M' [vR b, a0, a1, a2, a3, a4] μ o' (jU μ)) (hd : decode M.2.1 pc = .ok (.invokevirtual idx, 3)) (hp : pc + 3 = pc') (hg : MGood M' 5) (hi : MInst M') (hb : Recv Sh b M'.1.cls) (hf : MFits M M') (hw : Cond.methodLink M.1.cls idx M'.1 ∈ TBL) (hst : (st.map catv).sum ≤ 8) (k : ∀ v, o' = some v → SR l G Sh M (kk v) J pc' lv (st) μ) : SR l G Sh M (o'.bind kk) J pc lv (a4 :: a3 :: a2 :: a1 :: a0 :: vR b :: st) μ := fun b0 hb0 => by
  subst hp
  obtain ⟨v, hv, hkk⟩ := Option.bind_eq_some_iff.mp hb0
  exact ra_callV (as := [a0, a1, a2, a3, a4]) (hs v hv) hd hg hi hb hf hw rfl hst (fun r μ' hq ho => by
  cases hq
  exact k _ hv b0 hkk)
theorem sr_callV5_IM {l : Launch} {G : Nv} {Sh : Shp} {M : MD} {β : Type} {J : β → Option MV × Mem} {pc pc' : Nat} {lv : List (Option MV)} {st : List MV} {μ : Mem} {M' : MD} {o' : Option (Int × Mem)} {kk : Int × Mem → Option β} {a0 a1 a2 a3 a4 : MV} {b : Nat} {idx : Nat} (hs : SP l G Sh M' [vR b, a0, a1, a2, a3, a4] μ o' (jIM)) (hd : decode M.2.1 pc = .ok (.invokevirtual idx, 3)) (hp : pc + 3 = pc') (hg : MGood M' 5) (hi : MInst M') (hb : Recv Sh b M'.1.cls) (hf : MFits M M') (hw : Cond.methodLink M.1.cls idx M'.1 ∈ TBL) (hst : (st.map catv).sum ≤ 8) (k : ∀ v, o' = some v → C32 v.1 → (M'.2.2.2.1 = some .boolean → v.1 = 0 ∨ v.1 = 1) → SR l G Sh M (kk v) J pc' lv (vI v.1 :: st) v.2) : SR l G Sh M (o'.bind kk) J pc lv (a4 :: a3 :: a2 :: a1 :: a0 :: vR b :: st) μ := fun b0 hb0 => by
  subst hp
  obtain ⟨v, hv, hkk⟩ := Option.bind_eq_some_iff.mp hb0
  exact ra_callV (as := [a0, a1, a2, a3, a4]) (hs v hv) hd hg hi hb hf hw rfl hst (fun r μ' hq ho => by
  cases hq
  exact k _ hv ho.1 (fun h => by obtain ⟨x, hx, h01⟩ := ho.2 h; cases hx; exact h01) b0 hkk)
theorem sr_callV5_M {l : Launch} {G : Nv} {Sh : Shp} {M : MD} {β : Type} {J : β → Option MV × Mem} {pc pc' : Nat} {lv : List (Option MV)} {st : List MV} {μ : Mem} {M' : MD} {o' : Option (Mem)} {kk : Mem → Option β} {a0 a1 a2 a3 a4 : MV} {b : Nat} {idx : Nat} (hs : SP l G Sh M' [vR b, a0, a1, a2, a3, a4] μ o' (jM)) (hd : decode M.2.1 pc = .ok (.invokevirtual idx, 3)) (hp : pc + 3 = pc') (hg : MGood M' 5) (hi : MInst M') (hb : Recv Sh b M'.1.cls) (hf : MFits M M') (hw : Cond.methodLink M.1.cls idx M'.1 ∈ TBL) (hst : (st.map catv).sum ≤ 8) (k : ∀ v, o' = some v → SR l G Sh M (kk v) J pc' lv (st) v) : SR l G Sh M (o'.bind kk) J pc lv (a4 :: a3 :: a2 :: a1 :: a0 :: vR b :: st) μ := fun b0 hb0 => by
  subst hp
  obtain ⟨v, hv, hkk⟩ := Option.bind_eq_some_iff.mp hb0
  exact ra_callV (as := [a0, a1, a2, a3, a4]) (hs v hv) hd hg hi hb hf hw rfl hst (fun r μ' hq ho => by
  cases hq
  exact k _ hv b0 hkk)
theorem sr_callVN0_I {l : Launch} {G : Nv} {Sh : Shp} {M : MD} {β : Type} {J : β → Option MV × Mem} {pc pc' : Nat} {lv : List (Option MV)} {st : List MV} {μ : Mem} {M' : MD} {o' : Option (Int)} {kk : Int → Option β} {b : Nat} {idx : Nat} {host : String} (hs : SP l G Sh M' [vR b] μ o' (jI μ)) (hd : decode M.2.1 pc = .ok (.invokevirtual idx, 3)) (hp : pc + 3 = pc') (hg : MGood M' 0) (hi : MInst M') (hb : Recv Sh b M'.1.cls) (hf : MFits M M') (hw : Cond.methodLinkNest M.1.cls idx M'.1 host ∈ tables_1) (hst : (st.map catv).sum ≤ 8) (k : ∀ v, o' = some v → C32 v → (M'.2.2.2.1 = some .boolean → v = 0 ∨ v = 1) → SR l G Sh M (kk v) J pc' lv (vI v :: st) μ) : SR l G Sh M (o'.bind kk) J pc lv (vR b :: st) μ := fun b0 hb0 => by
  subst hp
  obtain ⟨v, hv, hkk⟩ := Option.bind_eq_some_iff.mp hb0
  exact ra_callVN (as := []) (hs v hv) hd hg hi hb hf hw rfl hst (fun r μ' hq ho => by
  cases hq
  exact k _ hv ho.1 (fun h => by obtain ⟨x, hx, h01⟩ := ho.2 h; cases hx; exact h01) b0 hkk)
theorem sr_callVN0_L {l : Launch} {G : Nv} {Sh : Shp} {M : MD} {β : Type} {J : β → Option MV × Mem} {pc pc' : Nat} {lv : List (Option MV)} {st : List MV} {μ : Mem} {M' : MD} {o' : Option (Int)} {kk : Int → Option β} {b : Nat} {idx : Nat} {host : String} (hs : SP l G Sh M' [vR b] μ o' (jL μ)) (hd : decode M.2.1 pc = .ok (.invokevirtual idx, 3)) (hp : pc + 3 = pc') (hg : MGood M' 0) (hi : MInst M') (hb : Recv Sh b M'.1.cls) (hf : MFits M M') (hw : Cond.methodLinkNest M.1.cls idx M'.1 host ∈ tables_1) (hst : (st.map catv).sum ≤ 8) (k : ∀ v, o' = some v → C64 v → SR l G Sh M (kk v) J pc' lv (vL v :: st) μ) : SR l G Sh M (o'.bind kk) J pc lv (vR b :: st) μ := fun b0 hb0 => by
  subst hp
  obtain ⟨v, hv, hkk⟩ := Option.bind_eq_some_iff.mp hb0
  exact ra_callVN (as := []) (hs v hv) hd hg hi hb hf hw rfl hst (fun r μ' hq ho => by
  cases hq
  exact k _ hv ho.1 b0 hkk)
theorem sr_callVN0_R {l : Launch} {G : Nv} {Sh : Shp} {M : MD} {β : Type} {J : β → Option MV × Mem} {pc pc' : Nat} {lv : List (Option MV)} {st : List MV} {μ : Mem} {M' : MD} {o' : Option (Nat)} {kk : Nat → Option β} {b : Nat} {idx : Nat} {host : String} (hs : SP l G Sh M' [vR b] μ o' (jR μ)) (hd : decode M.2.1 pc = .ok (.invokevirtual idx, 3)) (hp : pc + 3 = pc') (hg : MGood M' 0) (hi : MInst M') (hb : Recv Sh b M'.1.cls) (hf : MFits M M') (hw : Cond.methodLinkNest M.1.cls idx M'.1 host ∈ tables_1) (hst : (st.map catv).sum ≤ 8) (k : ∀ v, o' = some v → SR l G Sh M (kk v) J pc' lv (vR v :: st) μ) : SR l G Sh M (o'.bind kk) J pc lv (vR b :: st) μ := fun b0 hb0 => by
  subst hp
  obtain ⟨v, hv, hkk⟩ := Option.bind_eq_some_iff.mp hb0
  exact ra_callVN (as := []) (hs v hv) hd hg hi hb hf hw rfl hst (fun r μ' hq ho => by
  cases hq
  exact k _ hv b0 hkk)
theorem sr_callVN0_U {l : Launch} {G : Nv} {Sh : Shp} {M : MD} {β : Type} {J : β → Option MV × Mem} {pc pc' : Nat} {lv : List (Option MV)} {st : List MV} {μ : Mem} {M' : MD} {o' : Option (Unit)} {kk : Unit → Option β} {b : Nat} {idx : Nat} {host : String} (hs : SP l G Sh M' [vR b] μ o' (jU μ)) (hd : decode M.2.1 pc = .ok (.invokevirtual idx, 3)) (hp : pc + 3 = pc') (hg : MGood M' 0) (hi : MInst M') (hb : Recv Sh b M'.1.cls) (hf : MFits M M') (hw : Cond.methodLinkNest M.1.cls idx M'.1 host ∈ tables_1) (hst : (st.map catv).sum ≤ 8) (k : ∀ v, o' = some v → SR l G Sh M (kk v) J pc' lv (st) μ) : SR l G Sh M (o'.bind kk) J pc lv (vR b :: st) μ := fun b0 hb0 => by
  subst hp
  obtain ⟨v, hv, hkk⟩ := Option.bind_eq_some_iff.mp hb0
  exact ra_callVN (as := []) (hs v hv) hd hg hi hb hf hw rfl hst (fun r μ' hq ho => by
  cases hq
  exact k _ hv b0 hkk)
theorem sr_callVN0_IM {l : Launch} {G : Nv} {Sh : Shp} {M : MD} {β : Type} {J : β → Option MV × Mem} {pc pc' : Nat} {lv : List (Option MV)} {st : List MV} {μ : Mem} {M' : MD} {o' : Option (Int × Mem)} {kk : Int × Mem → Option β} {b : Nat} {idx : Nat} {host : String} (hs : SP l G Sh M' [vR b] μ o' (jIM)) (hd : decode M.2.1 pc = .ok (.invokevirtual idx, 3)) (hp : pc + 3 = pc') (hg : MGood M' 0) (hi : MInst M') (hb : Recv Sh b M'.1.cls) (hf : MFits M M') (hw : Cond.methodLinkNest M.1.cls idx M'.1 host ∈ tables_1) (hst : (st.map catv).sum ≤ 8) (k : ∀ v, o' = some v → C32 v.1 → (M'.2.2.2.1 = some .boolean → v.1 = 0 ∨ v.1 = 1) → SR l G Sh M (kk v) J pc' lv (vI v.1 :: st) v.2) : SR l G Sh M (o'.bind kk) J pc lv (vR b :: st) μ := fun b0 hb0 => by
  subst hp
  obtain ⟨v, hv, hkk⟩ := Option.bind_eq_some_iff.mp hb0
  exact ra_callVN (as := []) (hs v hv) hd hg hi hb hf hw rfl hst (fun r μ' hq ho => by
  cases hq
  exact k _ hv ho.1 (fun h => by obtain ⟨x, hx, h01⟩ := ho.2 h; cases hx; exact h01) b0 hkk)
theorem sr_callVN0_M {l : Launch} {G : Nv} {Sh : Shp} {M : MD} {β : Type} {J : β → Option MV × Mem} {pc pc' : Nat} {lv : List (Option MV)} {st : List MV} {μ : Mem} {M' : MD} {o' : Option (Mem)} {kk : Mem → Option β} {b : Nat} {idx : Nat} {host : String} (hs : SP l G Sh M' [vR b] μ o' (jM)) (hd : decode M.2.1 pc = .ok (.invokevirtual idx, 3)) (hp : pc + 3 = pc') (hg : MGood M' 0) (hi : MInst M') (hb : Recv Sh b M'.1.cls) (hf : MFits M M') (hw : Cond.methodLinkNest M.1.cls idx M'.1 host ∈ tables_1) (hst : (st.map catv).sum ≤ 8) (k : ∀ v, o' = some v → SR l G Sh M (kk v) J pc' lv (st) v) : SR l G Sh M (o'.bind kk) J pc lv (vR b :: st) μ := fun b0 hb0 => by
  subst hp
  obtain ⟨v, hv, hkk⟩ := Option.bind_eq_some_iff.mp hb0
  exact ra_callVN (as := []) (hs v hv) hd hg hi hb hf hw rfl hst (fun r μ' hq ho => by
  cases hq
  exact k _ hv b0 hkk)
theorem sr_callVN1_I {l : Launch} {G : Nv} {Sh : Shp} {M : MD} {β : Type} {J : β → Option MV × Mem} {pc pc' : Nat} {lv : List (Option MV)} {st : List MV} {μ : Mem} {M' : MD} {o' : Option (Int)} {kk : Int → Option β} {a0 : MV} {b : Nat} {idx : Nat} {host : String} (hs : SP l G Sh M' [vR b, a0] μ o' (jI μ)) (hd : decode M.2.1 pc = .ok (.invokevirtual idx, 3)) (hp : pc + 3 = pc') (hg : MGood M' 1) (hi : MInst M') (hb : Recv Sh b M'.1.cls) (hf : MFits M M') (hw : Cond.methodLinkNest M.1.cls idx M'.1 host ∈ tables_1) (hst : (st.map catv).sum ≤ 8) (k : ∀ v, o' = some v → C32 v → (M'.2.2.2.1 = some .boolean → v = 0 ∨ v = 1) → SR l G Sh M (kk v) J pc' lv (vI v :: st) μ) : SR l G Sh M (o'.bind kk) J pc lv (a0 :: vR b :: st) μ := fun b0 hb0 => by
  subst hp
  obtain ⟨v, hv, hkk⟩ := Option.bind_eq_some_iff.mp hb0
  exact ra_callVN (as := [a0]) (hs v hv) hd hg hi hb hf hw rfl hst (fun r μ' hq ho => by
  cases hq
  exact k _ hv ho.1 (fun h => by obtain ⟨x, hx, h01⟩ := ho.2 h; cases hx; exact h01) b0 hkk)
theorem sr_callVN1_L {l : Launch} {G : Nv} {Sh : Shp} {M : MD} {β : Type} {J : β → Option MV × Mem} {pc pc' : Nat} {lv : List (Option MV)} {st : List MV} {μ : Mem} {M' : MD} {o' : Option (Int)} {kk : Int → Option β} {a0 : MV} {b : Nat} {idx : Nat} {host : String} (hs : SP l G Sh M' [vR b, a0] μ o' (jL μ)) (hd : decode M.2.1 pc = .ok (.invokevirtual idx, 3)) (hp : pc + 3 = pc') (hg : MGood M' 1) (hi : MInst M') (hb : Recv Sh b M'.1.cls) (hf : MFits M M') (hw : Cond.methodLinkNest M.1.cls idx M'.1 host ∈ tables_1) (hst : (st.map catv).sum ≤ 8) (k : ∀ v, o' = some v → C64 v → SR l G Sh M (kk v) J pc' lv (vL v :: st) μ) : SR l G Sh M (o'.bind kk) J pc lv (a0 :: vR b :: st) μ := fun b0 hb0 => by
  subst hp
  obtain ⟨v, hv, hkk⟩ := Option.bind_eq_some_iff.mp hb0
  exact ra_callVN (as := [a0]) (hs v hv) hd hg hi hb hf hw rfl hst (fun r μ' hq ho => by
  cases hq
  exact k _ hv ho.1 b0 hkk)
theorem sr_callVN1_R {l : Launch} {G : Nv} {Sh : Shp} {M : MD} {β : Type} {J : β → Option MV × Mem} {pc pc' : Nat} {lv : List (Option MV)} {st : List MV} {μ : Mem} {M' : MD} {o' : Option (Nat)} {kk : Nat → Option β} {a0 : MV} {b : Nat} {idx : Nat} {host : String} (hs : SP l G Sh M' [vR b, a0] μ o' (jR μ)) (hd : decode M.2.1 pc = .ok (.invokevirtual idx, 3)) (hp : pc + 3 = pc') (hg : MGood M' 1) (hi : MInst M') (hb : Recv Sh b M'.1.cls) (hf : MFits M M') (hw : Cond.methodLinkNest M.1.cls idx M'.1 host ∈ tables_1) (hst : (st.map catv).sum ≤ 8) (k : ∀ v, o' = some v → SR l G Sh M (kk v) J pc' lv (vR v :: st) μ) : SR l G Sh M (o'.bind kk) J pc lv (a0 :: vR b :: st) μ := fun b0 hb0 => by
  subst hp
  obtain ⟨v, hv, hkk⟩ := Option.bind_eq_some_iff.mp hb0
  exact ra_callVN (as := [a0]) (hs v hv) hd hg hi hb hf hw rfl hst (fun r μ' hq ho => by
  cases hq
  exact k _ hv b0 hkk)
theorem sr_callVN1_U {l : Launch} {G : Nv} {Sh : Shp} {M : MD} {β : Type} {J : β → Option MV × Mem} {pc pc' : Nat} {lv : List (Option MV)} {st : List MV} {μ : Mem} {M' : MD} {o' : Option (Unit)} {kk : Unit → Option β} {a0 : MV} {b : Nat} {idx : Nat} {host : String} (hs : SP l G Sh M' [vR b, a0] μ o' (jU μ)) (hd : decode M.2.1 pc = .ok (.invokevirtual idx, 3)) (hp : pc + 3 = pc') (hg : MGood M' 1) (hi : MInst M') (hb : Recv Sh b M'.1.cls) (hf : MFits M M') (hw : Cond.methodLinkNest M.1.cls idx M'.1 host ∈ tables_1) (hst : (st.map catv).sum ≤ 8) (k : ∀ v, o' = some v → SR l G Sh M (kk v) J pc' lv (st) μ) : SR l G Sh M (o'.bind kk) J pc lv (a0 :: vR b :: st) μ := fun b0 hb0 => by
  subst hp
  obtain ⟨v, hv, hkk⟩ := Option.bind_eq_some_iff.mp hb0
  exact ra_callVN (as := [a0]) (hs v hv) hd hg hi hb hf hw rfl hst (fun r μ' hq ho => by
  cases hq
  exact k _ hv b0 hkk)
theorem sr_callVN1_IM {l : Launch} {G : Nv} {Sh : Shp} {M : MD} {β : Type} {J : β → Option MV × Mem} {pc pc' : Nat} {lv : List (Option MV)} {st : List MV} {μ : Mem} {M' : MD} {o' : Option (Int × Mem)} {kk : Int × Mem → Option β} {a0 : MV} {b : Nat} {idx : Nat} {host : String} (hs : SP l G Sh M' [vR b, a0] μ o' (jIM)) (hd : decode M.2.1 pc = .ok (.invokevirtual idx, 3)) (hp : pc + 3 = pc') (hg : MGood M' 1) (hi : MInst M') (hb : Recv Sh b M'.1.cls) (hf : MFits M M') (hw : Cond.methodLinkNest M.1.cls idx M'.1 host ∈ tables_1) (hst : (st.map catv).sum ≤ 8) (k : ∀ v, o' = some v → C32 v.1 → (M'.2.2.2.1 = some .boolean → v.1 = 0 ∨ v.1 = 1) → SR l G Sh M (kk v) J pc' lv (vI v.1 :: st) v.2) : SR l G Sh M (o'.bind kk) J pc lv (a0 :: vR b :: st) μ := fun b0 hb0 => by
  subst hp
  obtain ⟨v, hv, hkk⟩ := Option.bind_eq_some_iff.mp hb0
  exact ra_callVN (as := [a0]) (hs v hv) hd hg hi hb hf hw rfl hst (fun r μ' hq ho => by
  cases hq
  exact k _ hv ho.1 (fun h => by obtain ⟨x, hx, h01⟩ := ho.2 h; cases hx; exact h01) b0 hkk)
theorem sr_callVN1_M {l : Launch} {G : Nv} {Sh : Shp} {M : MD} {β : Type} {J : β → Option MV × Mem} {pc pc' : Nat} {lv : List (Option MV)} {st : List MV} {μ : Mem} {M' : MD} {o' : Option (Mem)} {kk : Mem → Option β} {a0 : MV} {b : Nat} {idx : Nat} {host : String} (hs : SP l G Sh M' [vR b, a0] μ o' (jM)) (hd : decode M.2.1 pc = .ok (.invokevirtual idx, 3)) (hp : pc + 3 = pc') (hg : MGood M' 1) (hi : MInst M') (hb : Recv Sh b M'.1.cls) (hf : MFits M M') (hw : Cond.methodLinkNest M.1.cls idx M'.1 host ∈ tables_1) (hst : (st.map catv).sum ≤ 8) (k : ∀ v, o' = some v → SR l G Sh M (kk v) J pc' lv (st) v) : SR l G Sh M (o'.bind kk) J pc lv (a0 :: vR b :: st) μ := fun b0 hb0 => by
  subst hp
  obtain ⟨v, hv, hkk⟩ := Option.bind_eq_some_iff.mp hb0
  exact ra_callVN (as := [a0]) (hs v hv) hd hg hi hb hf hw rfl hst (fun r μ' hq ho => by
  cases hq
  exact k _ hv b0 hkk)
theorem sr_callVN2_I {l : Launch} {G : Nv} {Sh : Shp} {M : MD} {β : Type} {J : β → Option MV × Mem} {pc pc' : Nat} {lv : List (Option MV)} {st : List MV} {μ : Mem} {M' : MD} {o' : Option (Int)} {kk : Int → Option β} {a0 a1 : MV} {b : Nat} {idx : Nat} {host : String} (hs : SP l G Sh M' [vR b, a0, a1] μ o' (jI μ)) (hd : decode M.2.1 pc = .ok (.invokevirtual idx, 3)) (hp : pc + 3 = pc') (hg : MGood M' 2) (hi : MInst M') (hb : Recv Sh b M'.1.cls) (hf : MFits M M') (hw : Cond.methodLinkNest M.1.cls idx M'.1 host ∈ tables_1) (hst : (st.map catv).sum ≤ 8) (k : ∀ v, o' = some v → C32 v → (M'.2.2.2.1 = some .boolean → v = 0 ∨ v = 1) → SR l G Sh M (kk v) J pc' lv (vI v :: st) μ) : SR l G Sh M (o'.bind kk) J pc lv (a1 :: a0 :: vR b :: st) μ := fun b0 hb0 => by
  subst hp
  obtain ⟨v, hv, hkk⟩ := Option.bind_eq_some_iff.mp hb0
  exact ra_callVN (as := [a0, a1]) (hs v hv) hd hg hi hb hf hw rfl hst (fun r μ' hq ho => by
  cases hq
  exact k _ hv ho.1 (fun h => by obtain ⟨x, hx, h01⟩ := ho.2 h; cases hx; exact h01) b0 hkk)
theorem sr_callVN2_L {l : Launch} {G : Nv} {Sh : Shp} {M : MD} {β : Type} {J : β → Option MV × Mem} {pc pc' : Nat} {lv : List (Option MV)} {st : List MV} {μ : Mem} {M' : MD} {o' : Option (Int)} {kk : Int → Option β} {a0 a1 : MV} {b : Nat} {idx : Nat} {host : String} (hs : SP l G Sh M' [vR b, a0, a1] μ o' (jL μ)) (hd : decode M.2.1 pc = .ok (.invokevirtual idx, 3)) (hp : pc + 3 = pc') (hg : MGood M' 2) (hi : MInst M') (hb : Recv Sh b M'.1.cls) (hf : MFits M M') (hw : Cond.methodLinkNest M.1.cls idx M'.1 host ∈ tables_1) (hst : (st.map catv).sum ≤ 8) (k : ∀ v, o' = some v → C64 v → SR l G Sh M (kk v) J pc' lv (vL v :: st) μ) : SR l G Sh M (o'.bind kk) J pc lv (a1 :: a0 :: vR b :: st) μ := fun b0 hb0 => by
  subst hp
  obtain ⟨v, hv, hkk⟩ := Option.bind_eq_some_iff.mp hb0
  exact ra_callVN (as := [a0, a1]) (hs v hv) hd hg hi hb hf hw rfl hst (fun r μ' hq ho => by
  cases hq
  exact k _ hv ho.1 b0 hkk)
theorem sr_callVN2_R {l : Launch} {G : Nv} {Sh : Shp} {M : MD} {β : Type} {J : β → Option MV × Mem} {pc pc' : Nat} {lv : List (Option MV)} {st : List MV} {μ : Mem} {M' : MD} {o' : Option (Nat)} {kk : Nat → Option β} {a0 a1 : MV} {b : Nat} {idx : Nat} {host : String} (hs : SP l G Sh M' [vR b, a0, a1] μ o' (jR μ)) (hd : decode M.2.1 pc = .ok (.invokevirtual idx, 3)) (hp : pc + 3 = pc') (hg : MGood M' 2) (hi : MInst M') (hb : Recv Sh b M'.1.cls) (hf : MFits M M') (hw : Cond.methodLinkNest M.1.cls idx M'.1 host ∈ tables_1) (hst : (st.map catv).sum ≤ 8) (k : ∀ v, o' = some v → SR l G Sh M (kk v) J pc' lv (vR v :: st) μ) : SR l G Sh M (o'.bind kk) J pc lv (a1 :: a0 :: vR b :: st) μ := fun b0 hb0 => by
  subst hp
  obtain ⟨v, hv, hkk⟩ := Option.bind_eq_some_iff.mp hb0
  exact ra_callVN (as := [a0, a1]) (hs v hv) hd hg hi hb hf hw rfl hst (fun r μ' hq ho => by
  cases hq
  exact k _ hv b0 hkk)
theorem sr_callVN2_U {l : Launch} {G : Nv} {Sh : Shp} {M : MD} {β : Type} {J : β → Option MV × Mem} {pc pc' : Nat} {lv : List (Option MV)} {st : List MV} {μ : Mem} {M' : MD} {o' : Option (Unit)} {kk : Unit → Option β} {a0 a1 : MV} {b : Nat} {idx : Nat} {host : String} (hs : SP l G Sh M' [vR b, a0, a1] μ o' (jU μ)) (hd : decode M.2.1 pc = .ok (.invokevirtual idx, 3)) (hp : pc + 3 = pc') (hg : MGood M' 2) (hi : MInst M') (hb : Recv Sh b M'.1.cls) (hf : MFits M M') (hw : Cond.methodLinkNest M.1.cls idx M'.1 host ∈ tables_1) (hst : (st.map catv).sum ≤ 8) (k : ∀ v, o' = some v → SR l G Sh M (kk v) J pc' lv (st) μ) : SR l G Sh M (o'.bind kk) J pc lv (a1 :: a0 :: vR b :: st) μ := fun b0 hb0 => by
  subst hp
  obtain ⟨v, hv, hkk⟩ := Option.bind_eq_some_iff.mp hb0
  exact ra_callVN (as := [a0, a1]) (hs v hv) hd hg hi hb hf hw rfl hst (fun r μ' hq ho => by
  cases hq
  exact k _ hv b0 hkk)
theorem sr_callVN2_IM {l : Launch} {G : Nv} {Sh : Shp} {M : MD} {β : Type} {J : β → Option MV × Mem} {pc pc' : Nat} {lv : List (Option MV)} {st : List MV} {μ : Mem} {M' : MD} {o' : Option (Int × Mem)} {kk : Int × Mem → Option β} {a0 a1 : MV} {b : Nat} {idx : Nat} {host : String} (hs : SP l G Sh M' [vR b, a0, a1] μ o' (jIM)) (hd : decode M.2.1 pc = .ok (.invokevirtual idx, 3)) (hp : pc + 3 = pc') (hg : MGood M' 2) (hi : MInst M') (hb : Recv Sh b M'.1.cls) (hf : MFits M M') (hw : Cond.methodLinkNest M.1.cls idx M'.1 host ∈ tables_1) (hst : (st.map catv).sum ≤ 8) (k : ∀ v, o' = some v → C32 v.1 → (M'.2.2.2.1 = some .boolean → v.1 = 0 ∨ v.1 = 1) → SR l G Sh M (kk v) J pc' lv (vI v.1 :: st) v.2) : SR l G Sh M (o'.bind kk) J pc lv (a1 :: a0 :: vR b :: st) μ := fun b0 hb0 => by
  subst hp
  obtain ⟨v, hv, hkk⟩ := Option.bind_eq_some_iff.mp hb0
  exact ra_callVN (as := [a0, a1]) (hs v hv) hd hg hi hb hf hw rfl hst (fun r μ' hq ho => by
  cases hq
  exact k _ hv ho.1 (fun h => by obtain ⟨x, hx, h01⟩ := ho.2 h; cases hx; exact h01) b0 hkk)
theorem sr_callVN2_M {l : Launch} {G : Nv} {Sh : Shp} {M : MD} {β : Type} {J : β → Option MV × Mem} {pc pc' : Nat} {lv : List (Option MV)} {st : List MV} {μ : Mem} {M' : MD} {o' : Option (Mem)} {kk : Mem → Option β} {a0 a1 : MV} {b : Nat} {idx : Nat} {host : String} (hs : SP l G Sh M' [vR b, a0, a1] μ o' (jM)) (hd : decode M.2.1 pc = .ok (.invokevirtual idx, 3)) (hp : pc + 3 = pc') (hg : MGood M' 2) (hi : MInst M') (hb : Recv Sh b M'.1.cls) (hf : MFits M M') (hw : Cond.methodLinkNest M.1.cls idx M'.1 host ∈ tables_1) (hst : (st.map catv).sum ≤ 8) (k : ∀ v, o' = some v → SR l G Sh M (kk v) J pc' lv (st) v) : SR l G Sh M (o'.bind kk) J pc lv (a1 :: a0 :: vR b :: st) μ := fun b0 hb0 => by
  subst hp
  obtain ⟨v, hv, hkk⟩ := Option.bind_eq_some_iff.mp hb0
  exact ra_callVN (as := [a0, a1]) (hs v hv) hd hg hi hb hf hw rfl hst (fun r μ' hq ho => by
  cases hq
  exact k _ hv b0 hkk)
theorem sr_callVN3_I {l : Launch} {G : Nv} {Sh : Shp} {M : MD} {β : Type} {J : β → Option MV × Mem} {pc pc' : Nat} {lv : List (Option MV)} {st : List MV} {μ : Mem} {M' : MD} {o' : Option (Int)} {kk : Int → Option β} {a0 a1 a2 : MV} {b : Nat} {idx : Nat} {host : String} (hs : SP l G Sh M' [vR b, a0, a1, a2] μ o' (jI μ)) (hd : decode M.2.1 pc = .ok (.invokevirtual idx, 3)) (hp : pc + 3 = pc') (hg : MGood M' 3) (hi : MInst M') (hb : Recv Sh b M'.1.cls) (hf : MFits M M') (hw : Cond.methodLinkNest M.1.cls idx M'.1 host ∈ tables_1) (hst : (st.map catv).sum ≤ 8) (k : ∀ v, o' = some v → C32 v → (M'.2.2.2.1 = some .boolean → v = 0 ∨ v = 1) → SR l G Sh M (kk v) J pc' lv (vI v :: st) μ) : SR l G Sh M (o'.bind kk) J pc lv (a2 :: a1 :: a0 :: vR b :: st) μ := fun b0 hb0 => by
  subst hp
  obtain ⟨v, hv, hkk⟩ := Option.bind_eq_some_iff.mp hb0
  exact ra_callVN (as := [a0, a1, a2]) (hs v hv) hd hg hi hb hf hw rfl hst (fun r μ' hq ho => by
  cases hq
  exact k _ hv ho.1 (fun h => by obtain ⟨x, hx, h01⟩ := ho.2 h; cases hx; exact h01) b0 hkk)
theorem sr_callVN3_L {l : Launch} {G : Nv} {Sh : Shp} {M : MD} {β : Type} {J : β → Option MV × Mem} {pc pc' : Nat} {lv : List (Option MV)} {st : List MV} {μ : Mem} {M' : MD} {o' : Option (Int)} {kk : Int → Option β} {a0 a1 a2 : MV} {b : Nat} {idx : Nat} {host : String} (hs : SP l G Sh M' [vR b, a0, a1, a2] μ o' (jL μ)) (hd : decode M.2.1 pc = .ok (.invokevirtual idx, 3)) (hp : pc + 3 = pc') (hg : MGood M' 3) (hi : MInst M') (hb : Recv Sh b M'.1.cls) (hf : MFits M M') (hw : Cond.methodLinkNest M.1.cls idx M'.1 host ∈ tables_1) (hst : (st.map catv).sum ≤ 8) (k : ∀ v, o' = some v → C64 v → SR l G Sh M (kk v) J pc' lv (vL v :: st) μ) : SR l G Sh M (o'.bind kk) J pc lv (a2 :: a1 :: a0 :: vR b :: st) μ := fun b0 hb0 => by
  subst hp
  obtain ⟨v, hv, hkk⟩ := Option.bind_eq_some_iff.mp hb0
  exact ra_callVN (as := [a0, a1, a2]) (hs v hv) hd hg hi hb hf hw rfl hst (fun r μ' hq ho => by
  cases hq
  exact k _ hv ho.1 b0 hkk)
theorem sr_callVN3_R {l : Launch} {G : Nv} {Sh : Shp} {M : MD} {β : Type} {J : β → Option MV × Mem} {pc pc' : Nat} {lv : List (Option MV)} {st : List MV} {μ : Mem} {M' : MD} {o' : Option (Nat)} {kk : Nat → Option β} {a0 a1 a2 : MV} {b : Nat} {idx : Nat} {host : String} (hs : SP l G Sh M' [vR b, a0, a1, a2] μ o' (jR μ)) (hd : decode M.2.1 pc = .ok (.invokevirtual idx, 3)) (hp : pc + 3 = pc') (hg : MGood M' 3) (hi : MInst M') (hb : Recv Sh b M'.1.cls) (hf : MFits M M') (hw : Cond.methodLinkNest M.1.cls idx M'.1 host ∈ tables_1) (hst : (st.map catv).sum ≤ 8) (k : ∀ v, o' = some v → SR l G Sh M (kk v) J pc' lv (vR v :: st) μ) : SR l G Sh M (o'.bind kk) J pc lv (a2 :: a1 :: a0 :: vR b :: st) μ := fun b0 hb0 => by
  subst hp
  obtain ⟨v, hv, hkk⟩ := Option.bind_eq_some_iff.mp hb0
  exact ra_callVN (as := [a0, a1, a2]) (hs v hv) hd hg hi hb hf hw rfl hst (fun r μ' hq ho => by
  cases hq
  exact k _ hv b0 hkk)
theorem sr_callVN3_U {l : Launch} {G : Nv} {Sh : Shp} {M : MD} {β : Type} {J : β → Option MV × Mem} {pc pc' : Nat} {lv : List (Option MV)} {st : List MV} {μ : Mem} {M' : MD} {o' : Option (Unit)} {kk : Unit → Option β} {a0 a1 a2 : MV} {b : Nat} {idx : Nat} {host : String} (hs : SP l G Sh M' [vR b, a0, a1, a2] μ o' (jU μ)) (hd : decode M.2.1 pc = .ok (.invokevirtual idx, 3)) (hp : pc + 3 = pc') (hg : MGood M' 3) (hi : MInst M') (hb : Recv Sh b M'.1.cls) (hf : MFits M M') (hw : Cond.methodLinkNest M.1.cls idx M'.1 host ∈ tables_1) (hst : (st.map catv).sum ≤ 8) (k : ∀ v, o' = some v → SR l G Sh M (kk v) J pc' lv (st) μ) : SR l G Sh M (o'.bind kk) J pc lv (a2 :: a1 :: a0 :: vR b :: st) μ := fun b0 hb0 => by
  subst hp
  obtain ⟨v, hv, hkk⟩ := Option.bind_eq_some_iff.mp hb0
  exact ra_callVN (as := [a0, a1, a2]) (hs v hv) hd hg hi hb hf hw rfl hst (fun r μ' hq ho => by
  cases hq
  exact k _ hv b0 hkk)
theorem sr_callVN3_IM {l : Launch} {G : Nv} {Sh : Shp} {M : MD} {β : Type} {J : β → Option MV × Mem} {pc pc' : Nat} {lv : List (Option MV)} {st : List MV} {μ : Mem} {M' : MD} {o' : Option (Int × Mem)} {kk : Int × Mem → Option β} {a0 a1 a2 : MV} {b : Nat} {idx : Nat} {host : String} (hs : SP l G Sh M' [vR b, a0, a1, a2] μ o' (jIM)) (hd : decode M.2.1 pc = .ok (.invokevirtual idx, 3)) (hp : pc + 3 = pc') (hg : MGood M' 3) (hi : MInst M') (hb : Recv Sh b M'.1.cls) (hf : MFits M M') (hw : Cond.methodLinkNest M.1.cls idx M'.1 host ∈ tables_1) (hst : (st.map catv).sum ≤ 8) (k : ∀ v, o' = some v → C32 v.1 → (M'.2.2.2.1 = some .boolean → v.1 = 0 ∨ v.1 = 1) → SR l G Sh M (kk v) J pc' lv (vI v.1 :: st) v.2) : SR l G Sh M (o'.bind kk) J pc lv (a2 :: a1 :: a0 :: vR b :: st) μ := fun b0 hb0 => by
  subst hp
  obtain ⟨v, hv, hkk⟩ := Option.bind_eq_some_iff.mp hb0
  exact ra_callVN (as := [a0, a1, a2]) (hs v hv) hd hg hi hb hf hw rfl hst (fun r μ' hq ho => by
  cases hq
  exact k _ hv ho.1 (fun h => by obtain ⟨x, hx, h01⟩ := ho.2 h; cases hx; exact h01) b0 hkk)
theorem sr_callVN3_M {l : Launch} {G : Nv} {Sh : Shp} {M : MD} {β : Type} {J : β → Option MV × Mem} {pc pc' : Nat} {lv : List (Option MV)} {st : List MV} {μ : Mem} {M' : MD} {o' : Option (Mem)} {kk : Mem → Option β} {a0 a1 a2 : MV} {b : Nat} {idx : Nat} {host : String} (hs : SP l G Sh M' [vR b, a0, a1, a2] μ o' (jM)) (hd : decode M.2.1 pc = .ok (.invokevirtual idx, 3)) (hp : pc + 3 = pc') (hg : MGood M' 3) (hi : MInst M') (hb : Recv Sh b M'.1.cls) (hf : MFits M M') (hw : Cond.methodLinkNest M.1.cls idx M'.1 host ∈ tables_1) (hst : (st.map catv).sum ≤ 8) (k : ∀ v, o' = some v → SR l G Sh M (kk v) J pc' lv (st) v) : SR l G Sh M (o'.bind kk) J pc lv (a2 :: a1 :: a0 :: vR b :: st) μ := fun b0 hb0 => by
  subst hp
  obtain ⟨v, hv, hkk⟩ := Option.bind_eq_some_iff.mp hb0
  exact ra_callVN (as := [a0, a1, a2]) (hs v hv) hd hg hi hb hf hw rfl hst (fun r μ' hq ho => by
  cases hq
  exact k _ hv b0 hkk)
theorem sr_callVN4_I {l : Launch} {G : Nv} {Sh : Shp} {M : MD} {β : Type} {J : β → Option MV × Mem} {pc pc' : Nat} {lv : List (Option MV)} {st : List MV} {μ : Mem} {M' : MD} {o' : Option (Int)} {kk : Int → Option β} {a0 a1 a2 a3 : MV} {b : Nat} {idx : Nat} {host : String} (hs : SP l G Sh M' [vR b, a0, a1, a2, a3] μ o' (jI μ)) (hd : decode M.2.1 pc = .ok (.invokevirtual idx, 3)) (hp : pc + 3 = pc') (hg : MGood M' 4) (hi : MInst M') (hb : Recv Sh b M'.1.cls) (hf : MFits M M') (hw : Cond.methodLinkNest M.1.cls idx M'.1 host ∈ tables_1) (hst : (st.map catv).sum ≤ 8) (k : ∀ v, o' = some v → C32 v → (M'.2.2.2.1 = some .boolean → v = 0 ∨ v = 1) → SR l G Sh M (kk v) J pc' lv (vI v :: st) μ) : SR l G Sh M (o'.bind kk) J pc lv (a3 :: a2 :: a1 :: a0 :: vR b :: st) μ := fun b0 hb0 => by
  subst hp
  obtain ⟨v, hv, hkk⟩ := Option.bind_eq_some_iff.mp hb0
  exact ra_callVN (as := [a0, a1, a2, a3]) (hs v hv) hd hg hi hb hf hw rfl hst (fun r μ' hq ho => by
  cases hq
  exact k _ hv ho.1 (fun h => by obtain ⟨x, hx, h01⟩ := ho.2 h; cases hx; exact h01) b0 hkk)
theorem sr_callVN4_L {l : Launch} {G : Nv} {Sh : Shp} {M : MD} {β : Type} {J : β → Option MV × Mem} {pc pc' : Nat} {lv : List (Option MV)} {st : List MV} {μ : Mem} {M' : MD} {o' : Option (Int)} {kk : Int → Option β} {a0 a1 a2 a3 : MV} {b : Nat} {idx : Nat} {host : String} (hs : SP l G Sh M' [vR b, a0, a1, a2, a3] μ o' (jL μ)) (hd : decode M.2.1 pc = .ok (.invokevirtual idx, 3)) (hp : pc + 3 = pc') (hg : MGood M' 4) (hi : MInst M') (hb : Recv Sh b M'.1.cls) (hf : MFits M M') (hw : Cond.methodLinkNest M.1.cls idx M'.1 host ∈ tables_1) (hst : (st.map catv).sum ≤ 8) (k : ∀ v, o' = some v → C64 v → SR l G Sh M (kk v) J pc' lv (vL v :: st) μ) : SR l G Sh M (o'.bind kk) J pc lv (a3 :: a2 :: a1 :: a0 :: vR b :: st) μ := fun b0 hb0 => by
  subst hp
  obtain ⟨v, hv, hkk⟩ := Option.bind_eq_some_iff.mp hb0
  exact ra_callVN (as := [a0, a1, a2, a3]) (hs v hv) hd hg hi hb hf hw rfl hst (fun r μ' hq ho => by
  cases hq
  exact k _ hv ho.1 b0 hkk)
theorem sr_callVN4_R {l : Launch} {G : Nv} {Sh : Shp} {M : MD} {β : Type} {J : β → Option MV × Mem} {pc pc' : Nat} {lv : List (Option MV)} {st : List MV} {μ : Mem} {M' : MD} {o' : Option (Nat)} {kk : Nat → Option β} {a0 a1 a2 a3 : MV} {b : Nat} {idx : Nat} {host : String} (hs : SP l G Sh M' [vR b, a0, a1, a2, a3] μ o' (jR μ)) (hd : decode M.2.1 pc = .ok (.invokevirtual idx, 3)) (hp : pc + 3 = pc') (hg : MGood M' 4) (hi : MInst M') (hb : Recv Sh b M'.1.cls) (hf : MFits M M') (hw : Cond.methodLinkNest M.1.cls idx M'.1 host ∈ tables_1) (hst : (st.map catv).sum ≤ 8) (k : ∀ v, o' = some v → SR l G Sh M (kk v) J pc' lv (vR v :: st) μ) : SR l G Sh M (o'.bind kk) J pc lv (a3 :: a2 :: a1 :: a0 :: vR b :: st) μ := fun b0 hb0 => by
  subst hp
  obtain ⟨v, hv, hkk⟩ := Option.bind_eq_some_iff.mp hb0
  exact ra_callVN (as := [a0, a1, a2, a3]) (hs v hv) hd hg hi hb hf hw rfl hst (fun r μ' hq ho => by
  cases hq
  exact k _ hv b0 hkk)
theorem sr_callVN4_U {l : Launch} {G : Nv} {Sh : Shp} {M : MD} {β : Type} {J : β → Option MV × Mem} {pc pc' : Nat} {lv : List (Option MV)} {st : List MV} {μ : Mem} {M' : MD} {o' : Option (Unit)} {kk : Unit → Option β} {a0 a1 a2 a3 : MV} {b : Nat} {idx : Nat} {host : String} (hs : SP l G Sh M' [vR b, a0, a1, a2, a3] μ o' (jU μ)) (hd : decode M.2.1 pc = .ok (.invokevirtual idx, 3)) (hp : pc + 3 = pc') (hg : MGood M' 4) (hi : MInst M') (hb : Recv Sh b M'.1.cls) (hf : MFits M M') (hw : Cond.methodLinkNest M.1.cls idx M'.1 host ∈ tables_1) (hst : (st.map catv).sum ≤ 8) (k : ∀ v, o' = some v → SR l G Sh M (kk v) J pc' lv (st) μ) : SR l G Sh M (o'.bind kk) J pc lv (a3 :: a2 :: a1 :: a0 :: vR b :: st) μ := fun b0 hb0 => by
  subst hp
  obtain ⟨v, hv, hkk⟩ := Option.bind_eq_some_iff.mp hb0
  exact ra_callVN (as := [a0, a1, a2, a3]) (hs v hv) hd hg hi hb hf hw rfl hst (fun r μ' hq ho => by
  cases hq
  exact k _ hv b0 hkk)
theorem sr_callVN4_IM {l : Launch} {G : Nv} {Sh : Shp} {M : MD} {β : Type} {J : β → Option MV × Mem} {pc pc' : Nat} {lv : List (Option MV)} {st : List MV} {μ : Mem} {M' : MD} {o' : Option (Int × Mem)} {kk : Int × Mem → Option β} {a0 a1 a2 a3 : MV} {b : Nat} {idx : Nat} {host : String} (hs : SP l G Sh M' [vR b, a0, a1, a2, a3] μ o' (jIM)) (hd : decode M.2.1 pc = .ok (.invokevirtual idx, 3)) (hp : pc + 3 = pc') (hg : MGood M' 4) (hi : MInst M') (hb : Recv Sh b M'.1.cls) (hf : MFits M M') (hw : Cond.methodLinkNest M.1.cls idx M'.1 host ∈ tables_1) (hst : (st.map catv).sum ≤ 8) (k : ∀ v, o' = some v → C32 v.1 → (M'.2.2.2.1 = some .boolean → v.1 = 0 ∨ v.1 = 1) → SR l G Sh M (kk v) J pc' lv (vI v.1 :: st) v.2) : SR l G Sh M (o'.bind kk) J pc lv (a3 :: a2 :: a1 :: a0 :: vR b :: st) μ := fun b0 hb0 => by
  subst hp
  obtain ⟨v, hv, hkk⟩ := Option.bind_eq_some_iff.mp hb0
  exact ra_callVN (as := [a0, a1, a2, a3]) (hs v hv) hd hg hi hb hf hw rfl hst (fun r μ' hq ho => by
  cases hq
  exact k _ hv ho.1 (fun h => by obtain ⟨x, hx, h01⟩ := ho.2 h; cases hx; exact h01) b0 hkk)
theorem sr_callVN4_M {l : Launch} {G : Nv} {Sh : Shp} {M : MD} {β : Type} {J : β → Option MV × Mem} {pc pc' : Nat} {lv : List (Option MV)} {st : List MV} {μ : Mem} {M' : MD} {o' : Option (Mem)} {kk : Mem → Option β} {a0 a1 a2 a3 : MV} {b : Nat} {idx : Nat} {host : String} (hs : SP l G Sh M' [vR b, a0, a1, a2, a3] μ o' (jM)) (hd : decode M.2.1 pc = .ok (.invokevirtual idx, 3)) (hp : pc + 3 = pc') (hg : MGood M' 4) (hi : MInst M') (hb : Recv Sh b M'.1.cls) (hf : MFits M M') (hw : Cond.methodLinkNest M.1.cls idx M'.1 host ∈ tables_1) (hst : (st.map catv).sum ≤ 8) (k : ∀ v, o' = some v → SR l G Sh M (kk v) J pc' lv (st) v) : SR l G Sh M (o'.bind kk) J pc lv (a3 :: a2 :: a1 :: a0 :: vR b :: st) μ := fun b0 hb0 => by
  subst hp
  obtain ⟨v, hv, hkk⟩ := Option.bind_eq_some_iff.mp hb0
  exact ra_callVN (as := [a0, a1, a2, a3]) (hs v hv) hd hg hi hb hf hw rfl hst (fun r μ' hq ho => by
  cases hq
  exact k _ hv b0 hkk)
theorem sr_callVN5_I {l : Launch} {G : Nv} {Sh : Shp} {M : MD} {β : Type} {J : β → Option MV × Mem} {pc pc' : Nat} {lv : List (Option MV)} {st : List MV} {μ : Mem} {M' : MD} {o' : Option (Int)} {kk : Int → Option β} {a0 a1 a2 a3 a4 : MV} {b : Nat} {idx : Nat} {host : String} (hs : SP l G Sh M' [vR b, a0, a1, a2, a3, a4] μ o' (jI μ)) (hd : decode M.2.1 pc = .ok (.invokevirtual idx, 3)) (hp : pc + 3 = pc') (hg : MGood M' 5) (hi : MInst M') (hb : Recv Sh b M'.1.cls) (hf : MFits M M') (hw : Cond.methodLinkNest M.1.cls idx M'.1 host ∈ tables_1) (hst : (st.map catv).sum ≤ 8) (k : ∀ v, o' = some v → C32 v → (M'.2.2.2.1 = some .boolean → v = 0 ∨ v = 1) → SR l G Sh M (kk v) J pc' lv (vI v :: st) μ) : SR l G Sh M (o'.bind kk) J pc lv (a4 :: a3 :: a2 :: a1 :: a0 :: vR b :: st) μ := fun b0 hb0 => by
  subst hp
  obtain ⟨v, hv, hkk⟩ := Option.bind_eq_some_iff.mp hb0
  exact ra_callVN (as := [a0, a1, a2, a3, a4]) (hs v hv) hd hg hi hb hf hw rfl hst (fun r μ' hq ho => by
  cases hq
  exact k _ hv ho.1 (fun h => by obtain ⟨x, hx, h01⟩ := ho.2 h; cases hx; exact h01) b0 hkk)
theorem sr_callVN5_L {l : Launch} {G : Nv} {Sh : Shp} {M : MD} {β : Type} {J : β → Option MV × Mem} {pc pc' : Nat} {lv : List (Option MV)} {st : List MV} {μ : Mem} {M' : MD} {o' : Option (Int)} {kk : Int → Option β} {a0 a1 a2 a3 a4 : MV} {b : Nat} {idx : Nat} {host : String} (hs : SP l G Sh M' [vR b, a0, a1, a2, a3, a4] μ o' (jL μ)) (hd : decode M.2.1 pc = .ok (.invokevirtual idx, 3)) (hp : pc + 3 = pc') (hg : MGood M' 5) (hi : MInst M') (hb : Recv Sh b M'.1.cls) (hf : MFits M M') (hw : Cond.methodLinkNest M.1.cls idx M'.1 host ∈ tables_1) (hst : (st.map catv).sum ≤ 8) (k : ∀ v, o' = some v → C64 v → SR l G Sh M (kk v) J pc' lv (vL v :: st) μ) : SR l G Sh M (o'.bind kk) J pc lv (a4 :: a3 :: a2 :: a1 :: a0 :: vR b :: st) μ := fun b0 hb0 => by
  subst hp
  obtain ⟨v, hv, hkk⟩ := Option.bind_eq_some_iff.mp hb0
  exact ra_callVN (as := [a0, a1, a2, a3, a4]) (hs v hv) hd hg hi hb hf hw rfl hst (fun r μ' hq ho => by
  cases hq
  exact k _ hv ho.1 b0 hkk)
theorem sr_callVN5_R {l : Launch} {G : Nv} {Sh : Shp} {M : MD} {β : Type} {J : β → Option MV × Mem} {pc pc' : Nat} {lv : List (Option MV)} {st : List MV} {μ : Mem} {M' : MD} {o' : Option (Nat)} {kk : Nat → Option β} {a0 a1 a2 a3 a4 : MV} {b : Nat} {idx : Nat} {host : String} (hs : SP l G Sh M' [vR b, a0, a1, a2, a3, a4] μ o' (jR μ)) (hd : decode M.2.1 pc = .ok (.invokevirtual idx, 3)) (hp : pc + 3 = pc') (hg : MGood M' 5) (hi : MInst M') (hb : Recv Sh b M'.1.cls) (hf : MFits M M') (hw : Cond.methodLinkNest M.1.cls idx M'.1 host ∈ tables_1) (hst : (st.map catv).sum ≤ 8) (k : ∀ v, o' = some v → SR l G Sh M (kk v) J pc' lv (vR v :: st) μ) : SR l G Sh M (o'.bind kk) J pc lv (a4 :: a3 :: a2 :: a1 :: a0 :: vR b :: st) μ := fun b0 hb0 => by
  subst hp
  obtain ⟨v, hv, hkk⟩ := Option.bind_eq_some_iff.mp hb0
  exact ra_callVN (as := [a0, a1, a2, a3, a4]) (hs v hv) hd hg hi hb hf hw rfl hst (fun r μ' hq ho => by
  cases hq
  exact k _ hv b0 hkk)
theorem sr_callVN5_U {l : Launch} {G : Nv} {Sh : Shp} {M : MD} {β : Type} {J : β → Option MV × Mem} {pc pc' : Nat} {lv : List (Option MV)} {st : List MV} {μ : Mem} {M' : MD} {o' : Option (Unit)} {kk : Unit → Option β} {a0 a1 a2 a3 a4 : MV} {b : Nat} {idx : Nat} {host : String} (hs : SP l G Sh M' [vR b, a0, a1, a2, a3, a4] μ o' (jU μ)) (hd : decode M.2.1 pc = .ok (.invokevirtual idx, 3)) (hp : pc + 3 = pc') (hg : MGood M' 5) (hi : MInst M') (hb : Recv Sh b M'.1.cls) (hf : MFits M M') (hw : Cond.methodLinkNest M.1.cls idx M'.1 host ∈ tables_1) (hst : (st.map catv).sum ≤ 8) (k : ∀ v, o' = some v → SR l G Sh M (kk v) J pc' lv (st) μ) : SR l G Sh M (o'.bind kk) J pc lv (a4 :: a3 :: a2 :: a1 :: a0 :: vR b :: st) μ := fun b0 hb0 => by
  subst hp
  obtain ⟨v, hv, hkk⟩ := Option.bind_eq_some_iff.mp hb0
  exact ra_callVN (as := [a0, a1, a2, a3, a4]) (hs v hv) hd hg hi hb hf hw rfl hst (fun r μ' hq ho => by
  cases hq
  exact k _ hv b0 hkk)
theorem sr_callVN5_IM {l : Launch} {G : Nv} {Sh : Shp} {M : MD} {β : Type} {J : β → Option MV × Mem} {pc pc' : Nat} {lv : List (Option MV)} {st : List MV} {μ : Mem} {M' : MD} {o' : Option (Int × Mem)} {kk : Int × Mem → Option β} {a0 a1 a2 a3 a4 : MV} {b : Nat} {idx : Nat} {host : String} (hs : SP l G Sh M' [vR b, a0, a1, a2, a3, a4] μ o' (jIM)) (hd : decode M.2.1 pc = .ok (.invokevirtual idx, 3)) (hp : pc + 3 = pc') (hg : MGood M' 5) (hi : MInst M') (hb : Recv Sh b M'.1.cls) (hf : MFits M M') (hw : Cond.methodLinkNest M.1.cls idx M'.1 host ∈ tables_1) (hst : (st.map catv).sum ≤ 8) (k : ∀ v, o' = some v → C32 v.1 → (M'.2.2.2.1 = some .boolean → v.1 = 0 ∨ v.1 = 1) → SR l G Sh M (kk v) J pc' lv (vI v.1 :: st) v.2) : SR l G Sh M (o'.bind kk) J pc lv (a4 :: a3 :: a2 :: a1 :: a0 :: vR b :: st) μ := fun b0 hb0 => by
  subst hp
  obtain ⟨v, hv, hkk⟩ := Option.bind_eq_some_iff.mp hb0
  exact ra_callVN (as := [a0, a1, a2, a3, a4]) (hs v hv) hd hg hi hb hf hw rfl hst (fun r μ' hq ho => by
  cases hq
  exact k _ hv ho.1 (fun h => by obtain ⟨x, hx, h01⟩ := ho.2 h; cases hx; exact h01) b0 hkk)
theorem sr_callVN5_M {l : Launch} {G : Nv} {Sh : Shp} {M : MD} {β : Type} {J : β → Option MV × Mem} {pc pc' : Nat} {lv : List (Option MV)} {st : List MV} {μ : Mem} {M' : MD} {o' : Option (Mem)} {kk : Mem → Option β} {a0 a1 a2 a3 a4 : MV} {b : Nat} {idx : Nat} {host : String} (hs : SP l G Sh M' [vR b, a0, a1, a2, a3, a4] μ o' (jM)) (hd : decode M.2.1 pc = .ok (.invokevirtual idx, 3)) (hp : pc + 3 = pc') (hg : MGood M' 5) (hi : MInst M') (hb : Recv Sh b M'.1.cls) (hf : MFits M M') (hw : Cond.methodLinkNest M.1.cls idx M'.1 host ∈ tables_1) (hst : (st.map catv).sum ≤ 8) (k : ∀ v, o' = some v → SR l G Sh M (kk v) J pc' lv (st) v) : SR l G Sh M (o'.bind kk) J pc lv (a4 :: a3 :: a2 :: a1 :: a0 :: vR b :: st) μ := fun b0 hb0 => by
  subst hp
  obtain ⟨v, hv, hkk⟩ := Option.bind_eq_some_iff.mp hb0
  exact ra_callVN (as := [a0, a1, a2, a3, a4]) (hs v hv) hd hg hi hb hf hw rfl hst (fun r μ' hq ho => by
  cases hq
  exact k _ hv b0 hkk)
theorem sr_callS0_I {l : Launch} {G : Nv} {Sh : Shp} {M : MD} {β : Type} {J : β → Option MV × Mem} {pc pc' : Nat} {lv : List (Option MV)} {st : List MV} {μ : Mem} {M' : MD} {o' : Option (Int)} {kk : Int → Option β} {idx : Nat} (hs : SP l G Sh M' [] μ o' (jI μ)) (hd : decode M.2.1 pc = .ok (.invokestatic idx, 3)) (hp : pc + 3 = pc') (hg : MGood M' 0) (hi : Cond.static M'.1 ∈ TBL) (hf : MFits M M') (hw : Cond.methodLink M.1.cls idx M'.1 ∈ TBL) (hst : (st.map catv).sum ≤ 8) (k : ∀ v, o' = some v → C32 v → (M'.2.2.2.1 = some .boolean → v = 0 ∨ v = 1) → SR l G Sh M (kk v) J pc' lv (vI v :: st) μ) : SR l G Sh M (o'.bind kk) J pc lv (st) μ := fun b0 hb0 => by
  subst hp
  obtain ⟨v, hv, hkk⟩ := Option.bind_eq_some_iff.mp hb0
  exact ra_callS (as := []) (hs v hv) hd hg hi hf hw rfl hst (fun r μ' hq ho => by
  cases hq
  exact k _ hv ho.1 (fun h => by obtain ⟨x, hx, h01⟩ := ho.2 h; cases hx; exact h01) b0 hkk)
theorem sr_callS0_L {l : Launch} {G : Nv} {Sh : Shp} {M : MD} {β : Type} {J : β → Option MV × Mem} {pc pc' : Nat} {lv : List (Option MV)} {st : List MV} {μ : Mem} {M' : MD} {o' : Option (Int)} {kk : Int → Option β} {idx : Nat} (hs : SP l G Sh M' [] μ o' (jL μ)) (hd : decode M.2.1 pc = .ok (.invokestatic idx, 3)) (hp : pc + 3 = pc') (hg : MGood M' 0) (hi : Cond.static M'.1 ∈ TBL) (hf : MFits M M') (hw : Cond.methodLink M.1.cls idx M'.1 ∈ TBL) (hst : (st.map catv).sum ≤ 8) (k : ∀ v, o' = some v → C64 v → SR l G Sh M (kk v) J pc' lv (vL v :: st) μ) : SR l G Sh M (o'.bind kk) J pc lv (st) μ := fun b0 hb0 => by
  subst hp
  obtain ⟨v, hv, hkk⟩ := Option.bind_eq_some_iff.mp hb0
  exact ra_callS (as := []) (hs v hv) hd hg hi hf hw rfl hst (fun r μ' hq ho => by
  cases hq
  exact k _ hv ho.1 b0 hkk)
theorem sr_callS0_R {l : Launch} {G : Nv} {Sh : Shp} {M : MD} {β : Type} {J : β → Option MV × Mem} {pc pc' : Nat} {lv : List (Option MV)} {st : List MV} {μ : Mem} {M' : MD} {o' : Option (Nat)} {kk : Nat → Option β} {idx : Nat} (hs : SP l G Sh M' [] μ o' (jR μ)) (hd : decode M.2.1 pc = .ok (.invokestatic idx, 3)) (hp : pc + 3 = pc') (hg : MGood M' 0) (hi : Cond.static M'.1 ∈ TBL) (hf : MFits M M') (hw : Cond.methodLink M.1.cls idx M'.1 ∈ TBL) (hst : (st.map catv).sum ≤ 8) (k : ∀ v, o' = some v → SR l G Sh M (kk v) J pc' lv (vR v :: st) μ) : SR l G Sh M (o'.bind kk) J pc lv (st) μ := fun b0 hb0 => by
  subst hp
  obtain ⟨v, hv, hkk⟩ := Option.bind_eq_some_iff.mp hb0
  exact ra_callS (as := []) (hs v hv) hd hg hi hf hw rfl hst (fun r μ' hq ho => by
  cases hq
  exact k _ hv b0 hkk)
theorem sr_callS0_U {l : Launch} {G : Nv} {Sh : Shp} {M : MD} {β : Type} {J : β → Option MV × Mem} {pc pc' : Nat} {lv : List (Option MV)} {st : List MV} {μ : Mem} {M' : MD} {o' : Option (Unit)} {kk : Unit → Option β} {idx : Nat} (hs : SP l G Sh M' [] μ o' (jU μ)) (hd : decode M.2.1 pc = .ok (.invokestatic idx, 3)) (hp : pc + 3 = pc') (hg : MGood M' 0) (hi : Cond.static M'.1 ∈ TBL) (hf : MFits M M') (hw : Cond.methodLink M.1.cls idx M'.1 ∈ TBL) (hst : (st.map catv).sum ≤ 8) (k : ∀ v, o' = some v → SR l G Sh M (kk v) J pc' lv (st) μ) : SR l G Sh M (o'.bind kk) J pc lv (st) μ := fun b0 hb0 => by
  subst hp
  obtain ⟨v, hv, hkk⟩ := Option.bind_eq_some_iff.mp hb0
  exact ra_callS (as := []) (hs v hv) hd hg hi hf hw rfl hst (fun r μ' hq ho => by
  cases hq
  exact k _ hv b0 hkk)
theorem sr_callS0_IM {l : Launch} {G : Nv} {Sh : Shp} {M : MD} {β : Type} {J : β → Option MV × Mem} {pc pc' : Nat} {lv : List (Option MV)} {st : List MV} {μ : Mem} {M' : MD} {o' : Option (Int × Mem)} {kk : Int × Mem → Option β} {idx : Nat} (hs : SP l G Sh M' [] μ o' (jIM)) (hd : decode M.2.1 pc = .ok (.invokestatic idx, 3)) (hp : pc + 3 = pc') (hg : MGood M' 0) (hi : Cond.static M'.1 ∈ TBL) (hf : MFits M M') (hw : Cond.methodLink M.1.cls idx M'.1 ∈ TBL) (hst : (st.map catv).sum ≤ 8) (k : ∀ v, o' = some v → C32 v.1 → (M'.2.2.2.1 = some .boolean → v.1 = 0 ∨ v.1 = 1) → SR l G Sh M (kk v) J pc' lv (vI v.1 :: st) v.2) : SR l G Sh M (o'.bind kk) J pc lv (st) μ := fun b0 hb0 => by
  subst hp
  obtain ⟨v, hv, hkk⟩ := Option.bind_eq_some_iff.mp hb0
  exact ra_callS (as := []) (hs v hv) hd hg hi hf hw rfl hst (fun r μ' hq ho => by
  cases hq
  exact k _ hv ho.1 (fun h => by obtain ⟨x, hx, h01⟩ := ho.2 h; cases hx; exact h01) b0 hkk)
theorem sr_callS0_M {l : Launch} {G : Nv} {Sh : Shp} {M : MD} {β : Type} {J : β → Option MV × Mem} {pc pc' : Nat} {lv : List (Option MV)} {st : List MV} {μ : Mem} {M' : MD} {o' : Option (Mem)} {kk : Mem → Option β} {idx : Nat} (hs : SP l G Sh M' [] μ o' (jM)) (hd : decode M.2.1 pc = .ok (.invokestatic idx, 3)) (hp : pc + 3 = pc') (hg : MGood M' 0) (hi : Cond.static M'.1 ∈ TBL) (hf : MFits M M') (hw : Cond.methodLink M.1.cls idx M'.1 ∈ TBL) (hst : (st.map catv).sum ≤ 8) (k : ∀ v, o' = some v → SR l G Sh M (kk v) J pc' lv (st) v) : SR l G Sh M (o'.bind kk) J pc lv (st) μ := fun b0 hb0 => by
  subst hp
  obtain ⟨v, hv, hkk⟩ := Option.bind_eq_some_iff.mp hb0
  exact ra_callS (as := []) (hs v hv) hd hg hi hf hw rfl hst (fun r μ' hq ho => by
  cases hq
  exact k _ hv b0 hkk)
theorem sr_callS1_I {l : Launch} {G : Nv} {Sh : Shp} {M : MD} {β : Type} {J : β → Option MV × Mem} {pc pc' : Nat} {lv : List (Option MV)} {st : List MV} {μ : Mem} {M' : MD} {o' : Option (Int)} {kk : Int → Option β} {a0 : MV} {idx : Nat} (hs : SP l G Sh M' [a0] μ o' (jI μ)) (hd : decode M.2.1 pc = .ok (.invokestatic idx, 3)) (hp : pc + 3 = pc') (hg : MGood M' 1) (hi : Cond.static M'.1 ∈ TBL) (hf : MFits M M') (hw : Cond.methodLink M.1.cls idx M'.1 ∈ TBL) (hst : (st.map catv).sum ≤ 8) (k : ∀ v, o' = some v → C32 v → (M'.2.2.2.1 = some .boolean → v = 0 ∨ v = 1) → SR l G Sh M (kk v) J pc' lv (vI v :: st) μ) : SR l G Sh M (o'.bind kk) J pc lv (a0 :: st) μ := fun b0 hb0 => by
  subst hp
  obtain ⟨v, hv, hkk⟩ := Option.bind_eq_some_iff.mp hb0
  exact ra_callS (as := [a0]) (hs v hv) hd hg hi hf hw rfl hst (fun r μ' hq ho => by
  cases hq
  exact k _ hv ho.1 (fun h => by obtain ⟨x, hx, h01⟩ := ho.2 h; cases hx; exact h01) b0 hkk)
theorem sr_callS1_L {l : Launch} {G : Nv} {Sh : Shp} {M : MD} {β : Type} {J : β → Option MV × Mem} {pc pc' : Nat} {lv : List (Option MV)} {st : List MV} {μ : Mem} {M' : MD} {o' : Option (Int)} {kk : Int → Option β} {a0 : MV} {idx : Nat} (hs : SP l G Sh M' [a0] μ o' (jL μ)) (hd : decode M.2.1 pc = .ok (.invokestatic idx, 3)) (hp : pc + 3 = pc') (hg : MGood M' 1) (hi : Cond.static M'.1 ∈ TBL) (hf : MFits M M') (hw : Cond.methodLink M.1.cls idx M'.1 ∈ TBL) (hst : (st.map catv).sum ≤ 8) (k : ∀ v, o' = some v → C64 v → SR l G Sh M (kk v) J pc' lv (vL v :: st) μ) : SR l G Sh M (o'.bind kk) J pc lv (a0 :: st) μ := fun b0 hb0 => by
  subst hp
  obtain ⟨v, hv, hkk⟩ := Option.bind_eq_some_iff.mp hb0
  exact ra_callS (as := [a0]) (hs v hv) hd hg hi hf hw rfl hst (fun r μ' hq ho => by
  cases hq
  exact k _ hv ho.1 b0 hkk)
theorem sr_callS1_R {l : Launch} {G : Nv} {Sh : Shp} {M : MD} {β : Type} {J : β → Option MV × Mem} {pc pc' : Nat} {lv : List (Option MV)} {st : List MV} {μ : Mem} {M' : MD} {o' : Option (Nat)} {kk : Nat → Option β} {a0 : MV} {idx : Nat} (hs : SP l G Sh M' [a0] μ o' (jR μ)) (hd : decode M.2.1 pc = .ok (.invokestatic idx, 3)) (hp : pc + 3 = pc') (hg : MGood M' 1) (hi : Cond.static M'.1 ∈ TBL) (hf : MFits M M') (hw : Cond.methodLink M.1.cls idx M'.1 ∈ TBL) (hst : (st.map catv).sum ≤ 8) (k : ∀ v, o' = some v → SR l G Sh M (kk v) J pc' lv (vR v :: st) μ) : SR l G Sh M (o'.bind kk) J pc lv (a0 :: st) μ := fun b0 hb0 => by
  subst hp
  obtain ⟨v, hv, hkk⟩ := Option.bind_eq_some_iff.mp hb0
  exact ra_callS (as := [a0]) (hs v hv) hd hg hi hf hw rfl hst (fun r μ' hq ho => by
  cases hq
  exact k _ hv b0 hkk)
theorem sr_callS1_U {l : Launch} {G : Nv} {Sh : Shp} {M : MD} {β : Type} {J : β → Option MV × Mem} {pc pc' : Nat} {lv : List (Option MV)} {st : List MV} {μ : Mem} {M' : MD} {o' : Option (Unit)} {kk : Unit → Option β} {a0 : MV} {idx : Nat} (hs : SP l G Sh M' [a0] μ o' (jU μ)) (hd : decode M.2.1 pc = .ok (.invokestatic idx, 3)) (hp : pc + 3 = pc') (hg : MGood M' 1) (hi : Cond.static M'.1 ∈ TBL) (hf : MFits M M') (hw : Cond.methodLink M.1.cls idx M'.1 ∈ TBL) (hst : (st.map catv).sum ≤ 8) (k : ∀ v, o' = some v → SR l G Sh M (kk v) J pc' lv (st) μ) : SR l G Sh M (o'.bind kk) J pc lv (a0 :: st) μ := fun b0 hb0 => by
  subst hp
  obtain ⟨v, hv, hkk⟩ := Option.bind_eq_some_iff.mp hb0
  exact ra_callS (as := [a0]) (hs v hv) hd hg hi hf hw rfl hst (fun r μ' hq ho => by
  cases hq
  exact k _ hv b0 hkk)
theorem sr_callS1_IM {l : Launch} {G : Nv} {Sh : Shp} {M : MD} {β : Type} {J : β → Option MV × Mem} {pc pc' : Nat} {lv : List (Option MV)} {st : List MV} {μ : Mem} {M' : MD} {o' : Option (Int × Mem)} {kk : Int × Mem → Option β} {a0 : MV} {idx : Nat} (hs : SP l G Sh M' [a0] μ o' (jIM)) (hd : decode M.2.1 pc = .ok (.invokestatic idx, 3)) (hp : pc + 3 = pc') (hg : MGood M' 1) (hi : Cond.static M'.1 ∈ TBL) (hf : MFits M M') (hw : Cond.methodLink M.1.cls idx M'.1 ∈ TBL) (hst : (st.map catv).sum ≤ 8) (k : ∀ v, o' = some v → C32 v.1 → (M'.2.2.2.1 = some .boolean → v.1 = 0 ∨ v.1 = 1) → SR l G Sh M (kk v) J pc' lv (vI v.1 :: st) v.2) : SR l G Sh M (o'.bind kk) J pc lv (a0 :: st) μ := fun b0 hb0 => by
  subst hp
  obtain ⟨v, hv, hkk⟩ := Option.bind_eq_some_iff.mp hb0
  exact ra_callS (as := [a0]) (hs v hv) hd hg hi hf hw rfl hst (fun r μ' hq ho => by
  cases hq
  exact k _ hv ho.1 (fun h => by obtain ⟨x, hx, h01⟩ := ho.2 h; cases hx; exact h01) b0 hkk)
theorem sr_callS1_M {l : Launch} {G : Nv} {Sh : Shp} {M : MD} {β : Type} {J : β → Option MV × Mem} {pc pc' : Nat} {lv : List (Option MV)} {st : List MV} {μ : Mem} {M' : MD} {o' : Option (Mem)} {kk : Mem → Option β} {a0 : MV} {idx : Nat} (hs : SP l G Sh M' [a0] μ o' (jM)) (hd : decode M.2.1 pc = .ok (.invokestatic idx, 3)) (hp : pc + 3 = pc') (hg : MGood M' 1) (hi : Cond.static M'.1 ∈ TBL) (hf : MFits M M') (hw : Cond.methodLink M.1.cls idx M'.1 ∈ TBL) (hst : (st.map catv).sum ≤ 8) (k : ∀ v, o' = some v → SR l G Sh M (kk v) J pc' lv (st) v) : SR l G Sh M (o'.bind kk) J pc lv (a0 :: st) μ := fun b0 hb0 => by
  subst hp
  obtain ⟨v, hv, hkk⟩ := Option.bind_eq_some_iff.mp hb0
  exact ra_callS (as := [a0]) (hs v hv) hd hg hi hf hw rfl hst (fun r μ' hq ho => by
  cases hq
  exact k _ hv b0 hkk)
theorem sr_callS2_I {l : Launch} {G : Nv} {Sh : Shp} {M : MD} {β : Type} {J : β → Option MV × Mem} {pc pc' : Nat} {lv : List (Option MV)} {st : List MV} {μ : Mem} {M' : MD} {o' : Option (Int)} {kk : Int → Option β} {a0 a1 : MV} {idx : Nat} (hs : SP l G Sh M' [a0, a1] μ o' (jI μ)) (hd : decode M.2.1 pc = .ok (.invokestatic idx, 3)) (hp : pc + 3 = pc') (hg : MGood M' 2) (hi : Cond.static M'.1 ∈ TBL) (hf : MFits M M') (hw : Cond.methodLink M.1.cls idx M'.1 ∈ TBL) (hst : (st.map catv).sum ≤ 8) (k : ∀ v, o' = some v → C32 v → (M'.2.2.2.1 = some .boolean → v = 0 ∨ v = 1) → SR l G Sh M (kk v) J pc' lv (vI v :: st) μ) : SR l G Sh M (o'.bind kk) J pc lv (a1 :: a0 :: st) μ := fun b0 hb0 => by
  subst hp
  obtain ⟨v, hv, hkk⟩ := Option.bind_eq_some_iff.mp hb0
  exact ra_callS (as := [a0, a1]) (hs v hv) hd hg hi hf hw rfl hst (fun r μ' hq ho => by
  cases hq
  exact k _ hv ho.1 (fun h => by obtain ⟨x, hx, h01⟩ := ho.2 h; cases hx; exact h01) b0 hkk)
theorem sr_callS2_L {l : Launch} {G : Nv} {Sh : Shp} {M : MD} {β : Type} {J : β → Option MV × Mem} {pc pc' : Nat} {lv : List (Option MV)} {st : List MV} {μ : Mem} {M' : MD} {o' : Option (Int)} {kk : Int → Option β} {a0 a1 : MV} {idx : Nat} (hs : SP l G Sh M' [a0, a1] μ o' (jL μ)) (hd : decode M.2.1 pc = .ok (.invokestatic idx, 3)) (hp : pc + 3 = pc') (hg : MGood M' 2) (hi : Cond.static M'.1 ∈ TBL) (hf : MFits M M') (hw : Cond.methodLink M.1.cls idx M'.1 ∈ TBL) (hst : (st.map catv).sum ≤ 8) (k : ∀ v, o' = some v → C64 v → SR l G Sh M (kk v) J pc' lv (vL v :: st) μ) : SR l G Sh M (o'.bind kk) J pc lv (a1 :: a0 :: st) μ := fun b0 hb0 => by
  subst hp
  obtain ⟨v, hv, hkk⟩ := Option.bind_eq_some_iff.mp hb0
  exact ra_callS (as := [a0, a1]) (hs v hv) hd hg hi hf hw rfl hst (fun r μ' hq ho => by
  cases hq
  exact k _ hv ho.1 b0 hkk)
theorem sr_callS2_R {l : Launch} {G : Nv} {Sh : Shp} {M : MD} {β : Type} {J : β → Option MV × Mem} {pc pc' : Nat} {lv : List (Option MV)} {st : List MV} {μ : Mem} {M' : MD} {o' : Option (Nat)} {kk : Nat → Option β} {a0 a1 : MV} {idx : Nat} (hs : SP l G Sh M' [a0, a1] μ o' (jR μ)) (hd : decode M.2.1 pc = .ok (.invokestatic idx, 3)) (hp : pc + 3 = pc') (hg : MGood M' 2) (hi : Cond.static M'.1 ∈ TBL) (hf : MFits M M') (hw : Cond.methodLink M.1.cls idx M'.1 ∈ TBL) (hst : (st.map catv).sum ≤ 8) (k : ∀ v, o' = some v → SR l G Sh M (kk v) J pc' lv (vR v :: st) μ) : SR l G Sh M (o'.bind kk) J pc lv (a1 :: a0 :: st) μ := fun b0 hb0 => by
  subst hp
  obtain ⟨v, hv, hkk⟩ := Option.bind_eq_some_iff.mp hb0
  exact ra_callS (as := [a0, a1]) (hs v hv) hd hg hi hf hw rfl hst (fun r μ' hq ho => by
  cases hq
  exact k _ hv b0 hkk)
theorem sr_callS2_U {l : Launch} {G : Nv} {Sh : Shp} {M : MD} {β : Type} {J : β → Option MV × Mem} {pc pc' : Nat} {lv : List (Option MV)} {st : List MV} {μ : Mem} {M' : MD} {o' : Option (Unit)} {kk : Unit → Option β} {a0 a1 : MV} {idx : Nat} (hs : SP l G Sh M' [a0, a1] μ o' (jU μ)) (hd : decode M.2.1 pc = .ok (.invokestatic idx, 3)) (hp : pc + 3 = pc') (hg : MGood M' 2) (hi : Cond.static M'.1 ∈ TBL) (hf : MFits M M') (hw : Cond.methodLink M.1.cls idx M'.1 ∈ TBL) (hst : (st.map catv).sum ≤ 8) (k : ∀ v, o' = some v → SR l G Sh M (kk v) J pc' lv (st) μ) : SR l G Sh M (o'.bind kk) J pc lv (a1 :: a0 :: st) μ := fun b0 hb0 => by
  subst hp
  obtain ⟨v, hv, hkk⟩ := Option.bind_eq_some_iff.mp hb0
  exact ra_callS (as := [a0, a1]) (hs v hv) hd hg hi hf hw rfl hst (fun r μ' hq ho => by
  cases hq
  exact k _ hv b0 hkk)
theorem sr_callS2_IM {l : Launch} {G : Nv} {Sh : Shp} {M : MD} {β : Type} {J : β → Option MV × Mem} {pc pc' : Nat} {lv : List (Option MV)} {st : List MV} {μ : Mem} {M' : MD} {o' : Option (Int × Mem)} {kk : Int × Mem → Option β} {a0 a1 : MV} {idx : Nat} (hs : SP l G Sh M' [a0, a1] μ o' (jIM)) (hd : decode M.2.1 pc = .ok (.invokestatic idx, 3)) (hp : pc + 3 = pc') (hg : MGood M' 2) (hi : Cond.static M'.1 ∈ TBL) (hf : MFits M M') (hw : Cond.methodLink M.1.cls idx M'.1 ∈ TBL) (hst : (st.map catv).sum ≤ 8) (k : ∀ v, o' = some v → C32 v.1 → (M'.2.2.2.1 = some .boolean → v.1 = 0 ∨ v.1 = 1) → SR l G Sh M (kk v) J pc' lv (vI v.1 :: st) v.2) : SR l G Sh M (o'.bind kk) J pc lv (a1 :: a0 :: st) μ := fun b0 hb0 => by
  subst hp
  obtain ⟨v, hv, hkk⟩ := Option.bind_eq_some_iff.mp hb0
  exact ra_callS (as := [a0, a1]) (hs v hv) hd hg hi hf hw rfl hst (fun r μ' hq ho => by
  cases hq
  exact k _ hv ho.1 (fun h => by obtain ⟨x, hx, h01⟩ := ho.2 h; cases hx; exact h01) b0 hkk)
theorem sr_callS2_M {l : Launch} {G : Nv} {Sh : Shp} {M : MD} {β : Type} {J : β → Option MV × Mem} {pc pc' : Nat} {lv : List (Option MV)} {st : List MV} {μ : Mem} {M' : MD} {o' : Option (Mem)} {kk : Mem → Option β} {a0 a1 : MV} {idx : Nat} (hs : SP l G Sh M' [a0, a1] μ o' (jM)) (hd : decode M.2.1 pc = .ok (.invokestatic idx, 3)) (hp : pc + 3 = pc') (hg : MGood M' 2) (hi : Cond.static M'.1 ∈ TBL) (hf : MFits M M') (hw : Cond.methodLink M.1.cls idx M'.1 ∈ TBL) (hst : (st.map catv).sum ≤ 8) (k : ∀ v, o' = some v → SR l G Sh M (kk v) J pc' lv (st) v) : SR l G Sh M (o'.bind kk) J pc lv (a1 :: a0 :: st) μ := fun b0 hb0 => by
  subst hp
  obtain ⟨v, hv, hkk⟩ := Option.bind_eq_some_iff.mp hb0
  exact ra_callS (as := [a0, a1]) (hs v hv) hd hg hi hf hw rfl hst (fun r μ' hq ho => by
  cases hq
  exact k _ hv b0 hkk)
theorem sr_callS3_I {l : Launch} {G : Nv} {Sh : Shp} {M : MD} {β : Type} {J : β → Option MV × Mem} {pc pc' : Nat} {lv : List (Option MV)} {st : List MV} {μ : Mem} {M' : MD} {o' : Option (Int)} {kk : Int → Option β} {a0 a1 a2 : MV} {idx : Nat} (hs : SP l G Sh M' [a0, a1, a2] μ o' (jI μ)) (hd : decode M.2.1 pc = .ok (.invokestatic idx, 3)) (hp : pc + 3 = pc') (hg : MGood M' 3) (hi : Cond.static M'.1 ∈ TBL) (hf : MFits M M') (hw : Cond.methodLink M.1.cls idx M'.1 ∈ TBL) (hst : (st.map catv).sum ≤ 8) (k : ∀ v, o' = some v → C32 v → (M'.2.2.2.1 = some .boolean → v = 0 ∨ v = 1) → SR l G Sh M (kk v) J pc' lv (vI v :: st) μ) : SR l G Sh M (o'.bind kk) J pc lv (a2 :: a1 :: a0 :: st) μ := fun b0 hb0 => by
  subst hp
  obtain ⟨v, hv, hkk⟩ := Option.bind_eq_some_iff.mp hb0
  exact ra_callS (as := [a0, a1, a2]) (hs v hv) hd hg hi hf hw rfl hst (fun r μ' hq ho => by
  cases hq
  exact k _ hv ho.1 (fun h => by obtain ⟨x, hx, h01⟩ := ho.2 h; cases hx; exact h01) b0 hkk)
theorem sr_callS3_L {l : Launch} {G : Nv} {Sh : Shp} {M : MD} {β : Type} {J : β → Option MV × Mem} {pc pc' : Nat} {lv : List (Option MV)} {st : List MV} {μ : Mem} {M' : MD} {o' : Option (Int)} {kk : Int → Option β} {a0 a1 a2 : MV} {idx : Nat} (hs : SP l G Sh M' [a0, a1, a2] μ o' (jL μ)) (hd : decode M.2.1 pc = .ok (.invokestatic idx, 3)) (hp : pc + 3 = pc') (hg : MGood M' 3) (hi : Cond.static M'.1 ∈ TBL) (hf : MFits M M') (hw : Cond.methodLink M.1.cls idx M'.1 ∈ TBL) (hst : (st.map catv).sum ≤ 8) (k : ∀ v, o' = some v → C64 v → SR l G Sh M (kk v) J pc' lv (vL v :: st) μ) : SR l G Sh M (o'.bind kk) J pc lv (a2 :: a1 :: a0 :: st) μ := fun b0 hb0 => by
  subst hp
  obtain ⟨v, hv, hkk⟩ := Option.bind_eq_some_iff.mp hb0
  exact ra_callS (as := [a0, a1, a2]) (hs v hv) hd hg hi hf hw rfl hst (fun r μ' hq ho => by
  cases hq
  exact k _ hv ho.1 b0 hkk)
theorem sr_callS3_R {l : Launch} {G : Nv} {Sh : Shp} {M : MD} {β : Type} {J : β → Option MV × Mem} {pc pc' : Nat} {lv : List (Option MV)} {st : List MV} {μ : Mem} {M' : MD} {o' : Option (Nat)} {kk : Nat → Option β} {a0 a1 a2 : MV} {idx : Nat} (hs : SP l G Sh M' [a0, a1, a2] μ o' (jR μ)) (hd : decode M.2.1 pc = .ok (.invokestatic idx, 3)) (hp : pc + 3 = pc') (hg : MGood M' 3) (hi : Cond.static M'.1 ∈ TBL) (hf : MFits M M') (hw : Cond.methodLink M.1.cls idx M'.1 ∈ TBL) (hst : (st.map catv).sum ≤ 8) (k : ∀ v, o' = some v → SR l G Sh M (kk v) J pc' lv (vR v :: st) μ) : SR l G Sh M (o'.bind kk) J pc lv (a2 :: a1 :: a0 :: st) μ := fun b0 hb0 => by
  subst hp
  obtain ⟨v, hv, hkk⟩ := Option.bind_eq_some_iff.mp hb0
  exact ra_callS (as := [a0, a1, a2]) (hs v hv) hd hg hi hf hw rfl hst (fun r μ' hq ho => by
  cases hq
  exact k _ hv b0 hkk)
theorem sr_callS3_U {l : Launch} {G : Nv} {Sh : Shp} {M : MD} {β : Type} {J : β → Option MV × Mem} {pc pc' : Nat} {lv : List (Option MV)} {st : List MV} {μ : Mem} {M' : MD} {o' : Option (Unit)} {kk : Unit → Option β} {a0 a1 a2 : MV} {idx : Nat} (hs : SP l G Sh M' [a0, a1, a2] μ o' (jU μ)) (hd : decode M.2.1 pc = .ok (.invokestatic idx, 3)) (hp : pc + 3 = pc') (hg : MGood M' 3) (hi : Cond.static M'.1 ∈ TBL) (hf : MFits M M') (hw : Cond.methodLink M.1.cls idx M'.1 ∈ TBL) (hst : (st.map catv).sum ≤ 8) (k : ∀ v, o' = some v → SR l G Sh M (kk v) J pc' lv (st) μ) : SR l G Sh M (o'.bind kk) J pc lv (a2 :: a1 :: a0 :: st) μ := fun b0 hb0 => by
  subst hp
  obtain ⟨v, hv, hkk⟩ := Option.bind_eq_some_iff.mp hb0
  exact ra_callS (as := [a0, a1, a2]) (hs v hv) hd hg hi hf hw rfl hst (fun r μ' hq ho => by
  cases hq
  exact k _ hv b0 hkk)
theorem sr_callS3_IM {l : Launch} {G : Nv} {Sh : Shp} {M : MD} {β : Type} {J : β → Option MV × Mem} {pc pc' : Nat} {lv : List (Option MV)} {st : List MV} {μ : Mem} {M' : MD} {o' : Option (Int × Mem)} {kk : Int × Mem → Option β} {a0 a1 a2 : MV} {idx : Nat} (hs : SP l G Sh M' [a0, a1, a2] μ o' (jIM)) (hd : decode M.2.1 pc = .ok (.invokestatic idx, 3)) (hp : pc + 3 = pc') (hg : MGood M' 3) (hi : Cond.static M'.1 ∈ TBL) (hf : MFits M M') (hw : Cond.methodLink M.1.cls idx M'.1 ∈ TBL) (hst : (st.map catv).sum ≤ 8) (k : ∀ v, o' = some v → C32 v.1 → (M'.2.2.2.1 = some .boolean → v.1 = 0 ∨ v.1 = 1) → SR l G Sh M (kk v) J pc' lv (vI v.1 :: st) v.2) : SR l G Sh M (o'.bind kk) J pc lv (a2 :: a1 :: a0 :: st) μ := fun b0 hb0 => by
  subst hp
  obtain ⟨v, hv, hkk⟩ := Option.bind_eq_some_iff.mp hb0
  exact ra_callS (as := [a0, a1, a2]) (hs v hv) hd hg hi hf hw rfl hst (fun r μ' hq ho => by
  cases hq
  exact k _ hv ho.1 (fun h => by obtain ⟨x, hx, h01⟩ := ho.2 h; cases hx; exact h01) b0 hkk)
theorem sr_callS3_M {l : Launch} {G : Nv} {Sh : Shp} {M : MD} {β : Type} {J : β → Option MV × Mem} {pc pc' : Nat} {lv : List (Option MV)} {st : List MV} {μ : Mem} {M' : MD} {o' : Option (Mem)} {kk : Mem → Option β} {a0 a1 a2 : MV} {idx : Nat} (hs : SP l G Sh M' [a0, a1, a2] μ o' (jM)) (hd : decode M.2.1 pc = .ok (.invokestatic idx, 3)) (hp : pc + 3 = pc') (hg : MGood M' 3) (hi : Cond.static M'.1 ∈ TBL) (hf : MFits M M') (hw : Cond.methodLink M.1.cls idx M'.1 ∈ TBL) (hst : (st.map catv).sum ≤ 8) (k : ∀ v, o' = some v → SR l G Sh M (kk v) J pc' lv (st) v) : SR l G Sh M (o'.bind kk) J pc lv (a2 :: a1 :: a0 :: st) μ := fun b0 hb0 => by
  subst hp
  obtain ⟨v, hv, hkk⟩ := Option.bind_eq_some_iff.mp hb0
  exact ra_callS (as := [a0, a1, a2]) (hs v hv) hd hg hi hf hw rfl hst (fun r μ' hq ho => by
  cases hq
  exact k _ hv b0 hkk)
theorem sr_callS4_I {l : Launch} {G : Nv} {Sh : Shp} {M : MD} {β : Type} {J : β → Option MV × Mem} {pc pc' : Nat} {lv : List (Option MV)} {st : List MV} {μ : Mem} {M' : MD} {o' : Option (Int)} {kk : Int → Option β} {a0 a1 a2 a3 : MV} {idx : Nat} (hs : SP l G Sh M' [a0, a1, a2, a3] μ o' (jI μ)) (hd : decode M.2.1 pc = .ok (.invokestatic idx, 3)) (hp : pc + 3 = pc') (hg : MGood M' 4) (hi : Cond.static M'.1 ∈ TBL) (hf : MFits M M') (hw : Cond.methodLink M.1.cls idx M'.1 ∈ TBL) (hst : (st.map catv).sum ≤ 8) (k : ∀ v, o' = some v → C32 v → (M'.2.2.2.1 = some .boolean → v = 0 ∨ v = 1) → SR l G Sh M (kk v) J pc' lv (vI v :: st) μ) : SR l G Sh M (o'.bind kk) J pc lv (a3 :: a2 :: a1 :: a0 :: st) μ := fun b0 hb0 => by
  subst hp
  obtain ⟨v, hv, hkk⟩ := Option.bind_eq_some_iff.mp hb0
  exact ra_callS (as := [a0, a1, a2, a3]) (hs v hv) hd hg hi hf hw rfl hst (fun r μ' hq ho => by
  cases hq
  exact k _ hv ho.1 (fun h => by obtain ⟨x, hx, h01⟩ := ho.2 h; cases hx; exact h01) b0 hkk)
theorem sr_callS4_L {l : Launch} {G : Nv} {Sh : Shp} {M : MD} {β : Type} {J : β → Option MV × Mem} {pc pc' : Nat} {lv : List (Option MV)} {st : List MV} {μ : Mem} {M' : MD} {o' : Option (Int)} {kk : Int → Option β} {a0 a1 a2 a3 : MV} {idx : Nat} (hs : SP l G Sh M' [a0, a1, a2, a3] μ o' (jL μ)) (hd : decode M.2.1 pc = .ok (.invokestatic idx, 3)) (hp : pc + 3 = pc') (hg : MGood M' 4) (hi : Cond.static M'.1 ∈ TBL) (hf : MFits M M') (hw : Cond.methodLink M.1.cls idx M'.1 ∈ TBL) (hst : (st.map catv).sum ≤ 8) (k : ∀ v, o' = some v → C64 v → SR l G Sh M (kk v) J pc' lv (vL v :: st) μ) : SR l G Sh M (o'.bind kk) J pc lv (a3 :: a2 :: a1 :: a0 :: st) μ := fun b0 hb0 => by
  subst hp
  obtain ⟨v, hv, hkk⟩ := Option.bind_eq_some_iff.mp hb0
  exact ra_callS (as := [a0, a1, a2, a3]) (hs v hv) hd hg hi hf hw rfl hst (fun r μ' hq ho => by
  cases hq
  exact k _ hv ho.1 b0 hkk)
theorem sr_callS4_R {l : Launch} {G : Nv} {Sh : Shp} {M : MD} {β : Type} {J : β → Option MV × Mem} {pc pc' : Nat} {lv : List (Option MV)} {st : List MV} {μ : Mem} {M' : MD} {o' : Option (Nat)} {kk : Nat → Option β} {a0 a1 a2 a3 : MV} {idx : Nat} (hs : SP l G Sh M' [a0, a1, a2, a3] μ o' (jR μ)) (hd : decode M.2.1 pc = .ok (.invokestatic idx, 3)) (hp : pc + 3 = pc') (hg : MGood M' 4) (hi : Cond.static M'.1 ∈ TBL) (hf : MFits M M') (hw : Cond.methodLink M.1.cls idx M'.1 ∈ TBL) (hst : (st.map catv).sum ≤ 8) (k : ∀ v, o' = some v → SR l G Sh M (kk v) J pc' lv (vR v :: st) μ) : SR l G Sh M (o'.bind kk) J pc lv (a3 :: a2 :: a1 :: a0 :: st) μ := fun b0 hb0 => by
  subst hp
  obtain ⟨v, hv, hkk⟩ := Option.bind_eq_some_iff.mp hb0
  exact ra_callS (as := [a0, a1, a2, a3]) (hs v hv) hd hg hi hf hw rfl hst (fun r μ' hq ho => by
  cases hq
  exact k _ hv b0 hkk)
theorem sr_callS4_U {l : Launch} {G : Nv} {Sh : Shp} {M : MD} {β : Type} {J : β → Option MV × Mem} {pc pc' : Nat} {lv : List (Option MV)} {st : List MV} {μ : Mem} {M' : MD} {o' : Option (Unit)} {kk : Unit → Option β} {a0 a1 a2 a3 : MV} {idx : Nat} (hs : SP l G Sh M' [a0, a1, a2, a3] μ o' (jU μ)) (hd : decode M.2.1 pc = .ok (.invokestatic idx, 3)) (hp : pc + 3 = pc') (hg : MGood M' 4) (hi : Cond.static M'.1 ∈ TBL) (hf : MFits M M') (hw : Cond.methodLink M.1.cls idx M'.1 ∈ TBL) (hst : (st.map catv).sum ≤ 8) (k : ∀ v, o' = some v → SR l G Sh M (kk v) J pc' lv (st) μ) : SR l G Sh M (o'.bind kk) J pc lv (a3 :: a2 :: a1 :: a0 :: st) μ := fun b0 hb0 => by
  subst hp
  obtain ⟨v, hv, hkk⟩ := Option.bind_eq_some_iff.mp hb0
  exact ra_callS (as := [a0, a1, a2, a3]) (hs v hv) hd hg hi hf hw rfl hst (fun r μ' hq ho => by
  cases hq
  exact k _ hv b0 hkk)
theorem sr_callS4_IM {l : Launch} {G : Nv} {Sh : Shp} {M : MD} {β : Type} {J : β → Option MV × Mem} {pc pc' : Nat} {lv : List (Option MV)} {st : List MV} {μ : Mem} {M' : MD} {o' : Option (Int × Mem)} {kk : Int × Mem → Option β} {a0 a1 a2 a3 : MV} {idx : Nat} (hs : SP l G Sh M' [a0, a1, a2, a3] μ o' (jIM)) (hd : decode M.2.1 pc = .ok (.invokestatic idx, 3)) (hp : pc + 3 = pc') (hg : MGood M' 4) (hi : Cond.static M'.1 ∈ TBL) (hf : MFits M M') (hw : Cond.methodLink M.1.cls idx M'.1 ∈ TBL) (hst : (st.map catv).sum ≤ 8) (k : ∀ v, o' = some v → C32 v.1 → (M'.2.2.2.1 = some .boolean → v.1 = 0 ∨ v.1 = 1) → SR l G Sh M (kk v) J pc' lv (vI v.1 :: st) v.2) : SR l G Sh M (o'.bind kk) J pc lv (a3 :: a2 :: a1 :: a0 :: st) μ := fun b0 hb0 => by
  subst hp
  obtain ⟨v, hv, hkk⟩ := Option.bind_eq_some_iff.mp hb0
  exact ra_callS (as := [a0, a1, a2, a3]) (hs v hv) hd hg hi hf hw rfl hst (fun r μ' hq ho => by
  cases hq
  exact k _ hv ho.1 (fun h => by obtain ⟨x, hx, h01⟩ := ho.2 h; cases hx; exact h01) b0 hkk)
theorem sr_callS4_M {l : Launch} {G : Nv} {Sh : Shp} {M : MD} {β : Type} {J : β → Option MV × Mem} {pc pc' : Nat} {lv : List (Option MV)} {st : List MV} {μ : Mem} {M' : MD} {o' : Option (Mem)} {kk : Mem → Option β} {a0 a1 a2 a3 : MV} {idx : Nat} (hs : SP l G Sh M' [a0, a1, a2, a3] μ o' (jM)) (hd : decode M.2.1 pc = .ok (.invokestatic idx, 3)) (hp : pc + 3 = pc') (hg : MGood M' 4) (hi : Cond.static M'.1 ∈ TBL) (hf : MFits M M') (hw : Cond.methodLink M.1.cls idx M'.1 ∈ TBL) (hst : (st.map catv).sum ≤ 8) (k : ∀ v, o' = some v → SR l G Sh M (kk v) J pc' lv (st) v) : SR l G Sh M (o'.bind kk) J pc lv (a3 :: a2 :: a1 :: a0 :: st) μ := fun b0 hb0 => by
  subst hp
  obtain ⟨v, hv, hkk⟩ := Option.bind_eq_some_iff.mp hb0
  exact ra_callS (as := [a0, a1, a2, a3]) (hs v hv) hd hg hi hf hw rfl hst (fun r μ' hq ho => by
  cases hq
  exact k _ hv b0 hkk)
theorem sr_callS5_I {l : Launch} {G : Nv} {Sh : Shp} {M : MD} {β : Type} {J : β → Option MV × Mem} {pc pc' : Nat} {lv : List (Option MV)} {st : List MV} {μ : Mem} {M' : MD} {o' : Option (Int)} {kk : Int → Option β} {a0 a1 a2 a3 a4 : MV} {idx : Nat} (hs : SP l G Sh M' [a0, a1, a2, a3, a4] μ o' (jI μ)) (hd : decode M.2.1 pc = .ok (.invokestatic idx, 3)) (hp : pc + 3 = pc') (hg : MGood M' 5) (hi : Cond.static M'.1 ∈ TBL) (hf : MFits M M') (hw : Cond.methodLink M.1.cls idx M'.1 ∈ TBL) (hst : (st.map catv).sum ≤ 8) (k : ∀ v, o' = some v → C32 v → (M'.2.2.2.1 = some .boolean → v = 0 ∨ v = 1) → SR l G Sh M (kk v) J pc' lv (vI v :: st) μ) : SR l G Sh M (o'.bind kk) J pc lv (a4 :: a3 :: a2 :: a1 :: a0 :: st) μ := fun b0 hb0 => by
  subst hp
  obtain ⟨v, hv, hkk⟩ := Option.bind_eq_some_iff.mp hb0
  exact ra_callS (as := [a0, a1, a2, a3, a4]) (hs v hv) hd hg hi hf hw rfl hst (fun r μ' hq ho => by
  cases hq
  exact k _ hv ho.1 (fun h => by obtain ⟨x, hx, h01⟩ := ho.2 h; cases hx; exact h01) b0 hkk)
theorem sr_callS5_L {l : Launch} {G : Nv} {Sh : Shp} {M : MD} {β : Type} {J : β → Option MV × Mem} {pc pc' : Nat} {lv : List (Option MV)} {st : List MV} {μ : Mem} {M' : MD} {o' : Option (Int)} {kk : Int → Option β} {a0 a1 a2 a3 a4 : MV} {idx : Nat} (hs : SP l G Sh M' [a0, a1, a2, a3, a4] μ o' (jL μ)) (hd : decode M.2.1 pc = .ok (.invokestatic idx, 3)) (hp : pc + 3 = pc') (hg : MGood M' 5) (hi : Cond.static M'.1 ∈ TBL) (hf : MFits M M') (hw : Cond.methodLink M.1.cls idx M'.1 ∈ TBL) (hst : (st.map catv).sum ≤ 8) (k : ∀ v, o' = some v → C64 v → SR l G Sh M (kk v) J pc' lv (vL v :: st) μ) : SR l G Sh M (o'.bind kk) J pc lv (a4 :: a3 :: a2 :: a1 :: a0 :: st) μ := fun b0 hb0 => by
  subst hp
  obtain ⟨v, hv, hkk⟩ := Option.bind_eq_some_iff.mp hb0
  exact ra_callS (as := [a0, a1, a2, a3, a4]) (hs v hv) hd hg hi hf hw rfl hst (fun r μ' hq ho => by
  cases hq
  exact k _ hv ho.1 b0 hkk)
theorem sr_callS5_R {l : Launch} {G : Nv} {Sh : Shp} {M : MD} {β : Type} {J : β → Option MV × Mem} {pc pc' : Nat} {lv : List (Option MV)} {st : List MV} {μ : Mem} {M' : MD} {o' : Option (Nat)} {kk : Nat → Option β} {a0 a1 a2 a3 a4 : MV} {idx : Nat} (hs : SP l G Sh M' [a0, a1, a2, a3, a4] μ o' (jR μ)) (hd : decode M.2.1 pc = .ok (.invokestatic idx, 3)) (hp : pc + 3 = pc') (hg : MGood M' 5) (hi : Cond.static M'.1 ∈ TBL) (hf : MFits M M') (hw : Cond.methodLink M.1.cls idx M'.1 ∈ TBL) (hst : (st.map catv).sum ≤ 8) (k : ∀ v, o' = some v → SR l G Sh M (kk v) J pc' lv (vR v :: st) μ) : SR l G Sh M (o'.bind kk) J pc lv (a4 :: a3 :: a2 :: a1 :: a0 :: st) μ := fun b0 hb0 => by
  subst hp
  obtain ⟨v, hv, hkk⟩ := Option.bind_eq_some_iff.mp hb0
  exact ra_callS (as := [a0, a1, a2, a3, a4]) (hs v hv) hd hg hi hf hw rfl hst (fun r μ' hq ho => by
  cases hq
  exact k _ hv b0 hkk)
theorem sr_callS5_U {l : Launch} {G : Nv} {Sh : Shp} {M : MD} {β : Type} {J : β → Option MV × Mem} {pc pc' : Nat} {lv : List (Option MV)} {st : List MV} {μ : Mem} {M' : MD} {o' : Option (Unit)} {kk : Unit → Option β} {a0 a1 a2 a3 a4 : MV} {idx : Nat} (hs : SP l G Sh M' [a0, a1, a2, a3, a4] μ o' (jU μ)) (hd : decode M.2.1 pc = .ok (.invokestatic idx, 3)) (hp : pc + 3 = pc') (hg : MGood M' 5) (hi : Cond.static M'.1 ∈ TBL) (hf : MFits M M') (hw : Cond.methodLink M.1.cls idx M'.1 ∈ TBL) (hst : (st.map catv).sum ≤ 8) (k : ∀ v, o' = some v → SR l G Sh M (kk v) J pc' lv (st) μ) : SR l G Sh M (o'.bind kk) J pc lv (a4 :: a3 :: a2 :: a1 :: a0 :: st) μ := fun b0 hb0 => by
  subst hp
  obtain ⟨v, hv, hkk⟩ := Option.bind_eq_some_iff.mp hb0
  exact ra_callS (as := [a0, a1, a2, a3, a4]) (hs v hv) hd hg hi hf hw rfl hst (fun r μ' hq ho => by
  cases hq
  exact k _ hv b0 hkk)
theorem sr_callS5_IM {l : Launch} {G : Nv} {Sh : Shp} {M : MD} {β : Type} {J : β → Option MV × Mem} {pc pc' : Nat} {lv : List (Option MV)} {st : List MV} {μ : Mem} {M' : MD} {o' : Option (Int × Mem)} {kk : Int × Mem → Option β} {a0 a1 a2 a3 a4 : MV} {idx : Nat} (hs : SP l G Sh M' [a0, a1, a2, a3, a4] μ o' (jIM)) (hd : decode M.2.1 pc = .ok (.invokestatic idx, 3)) (hp : pc + 3 = pc') (hg : MGood M' 5) (hi : Cond.static M'.1 ∈ TBL) (hf : MFits M M') (hw : Cond.methodLink M.1.cls idx M'.1 ∈ TBL) (hst : (st.map catv).sum ≤ 8) (k : ∀ v, o' = some v → C32 v.1 → (M'.2.2.2.1 = some .boolean → v.1 = 0 ∨ v.1 = 1) → SR l G Sh M (kk v) J pc' lv (vI v.1 :: st) v.2) : SR l G Sh M (o'.bind kk) J pc lv (a4 :: a3 :: a2 :: a1 :: a0 :: st) μ := fun b0 hb0 => by
  subst hp
  obtain ⟨v, hv, hkk⟩ := Option.bind_eq_some_iff.mp hb0
  exact ra_callS (as := [a0, a1, a2, a3, a4]) (hs v hv) hd hg hi hf hw rfl hst (fun r μ' hq ho => by
  cases hq
  exact k _ hv ho.1 (fun h => by obtain ⟨x, hx, h01⟩ := ho.2 h; cases hx; exact h01) b0 hkk)
theorem sr_callS5_M {l : Launch} {G : Nv} {Sh : Shp} {M : MD} {β : Type} {J : β → Option MV × Mem} {pc pc' : Nat} {lv : List (Option MV)} {st : List MV} {μ : Mem} {M' : MD} {o' : Option (Mem)} {kk : Mem → Option β} {a0 a1 a2 a3 a4 : MV} {idx : Nat} (hs : SP l G Sh M' [a0, a1, a2, a3, a4] μ o' (jM)) (hd : decode M.2.1 pc = .ok (.invokestatic idx, 3)) (hp : pc + 3 = pc') (hg : MGood M' 5) (hi : Cond.static M'.1 ∈ TBL) (hf : MFits M M') (hw : Cond.methodLink M.1.cls idx M'.1 ∈ TBL) (hst : (st.map catv).sum ≤ 8) (k : ∀ v, o' = some v → SR l G Sh M (kk v) J pc' lv (st) v) : SR l G Sh M (o'.bind kk) J pc lv (a4 :: a3 :: a2 :: a1 :: a0 :: st) μ := fun b0 hb0 => by
  subst hp
  obtain ⟨v, hv, hkk⟩ := Option.bind_eq_some_iff.mp hb0
  exact ra_callS (as := [a0, a1, a2, a3, a4]) (hs v hv) hd hg hi hf hw rfl hst (fun r μ' hq ho => by
  cases hq
  exact k _ hv b0 hkk)
theorem sr_callSN0_I {l : Launch} {G : Nv} {Sh : Shp} {M : MD} {β : Type} {J : β → Option MV × Mem} {pc pc' : Nat} {lv : List (Option MV)} {st : List MV} {μ : Mem} {M' : MD} {o' : Option (Int)} {kk : Int → Option β} {idx : Nat} {host : String} (hs : SP l G Sh M' [] μ o' (jI μ)) (hd : decode M.2.1 pc = .ok (.invokestatic idx, 3)) (hp : pc + 3 = pc') (hg : MGood M' 0) (hi : Cond.static M'.1 ∈ TBL) (hf : MFits M M') (hw : Cond.methodLinkNest M.1.cls idx M'.1 host ∈ tables_1) (hst : (st.map catv).sum ≤ 8) (k : ∀ v, o' = some v → C32 v → (M'.2.2.2.1 = some .boolean → v = 0 ∨ v = 1) → SR l G Sh M (kk v) J pc' lv (vI v :: st) μ) : SR l G Sh M (o'.bind kk) J pc lv (st) μ := fun b0 hb0 => by
  subst hp
  obtain ⟨v, hv, hkk⟩ := Option.bind_eq_some_iff.mp hb0
  exact ra_callSN (as := []) (hs v hv) hd hg hi hf hw rfl hst (fun r μ' hq ho => by
  cases hq
  exact k _ hv ho.1 (fun h => by obtain ⟨x, hx, h01⟩ := ho.2 h; cases hx; exact h01) b0 hkk)
theorem sr_callSN0_L {l : Launch} {G : Nv} {Sh : Shp} {M : MD} {β : Type} {J : β → Option MV × Mem} {pc pc' : Nat} {lv : List (Option MV)} {st : List MV} {μ : Mem} {M' : MD} {o' : Option (Int)} {kk : Int → Option β} {idx : Nat} {host : String} (hs : SP l G Sh M' [] μ o' (jL μ)) (hd : decode M.2.1 pc = .ok (.invokestatic idx, 3)) (hp : pc + 3 = pc') (hg : MGood M' 0) (hi : Cond.static M'.1 ∈ TBL) (hf : MFits M M') (hw : Cond.methodLinkNest M.1.cls idx M'.1 host ∈ tables_1) (hst : (st.map catv).sum ≤ 8) (k : ∀ v, o' = some v → C64 v → SR l G Sh M (kk v) J pc' lv (vL v :: st) μ) : SR l G Sh M (o'.bind kk) J pc lv (st) μ := fun b0 hb0 => by
  subst hp
  obtain ⟨v, hv, hkk⟩ := Option.bind_eq_some_iff.mp hb0
  exact ra_callSN (as := []) (hs v hv) hd hg hi hf hw rfl hst (fun r μ' hq ho => by
  cases hq
  exact k _ hv ho.1 b0 hkk)
theorem sr_callSN0_R {l : Launch} {G : Nv} {Sh : Shp} {M : MD} {β : Type} {J : β → Option MV × Mem} {pc pc' : Nat} {lv : List (Option MV)} {st : List MV} {μ : Mem} {M' : MD} {o' : Option (Nat)} {kk : Nat → Option β} {idx : Nat} {host : String} (hs : SP l G Sh M' [] μ o' (jR μ)) (hd : decode M.2.1 pc = .ok (.invokestatic idx, 3)) (hp : pc + 3 = pc') (hg : MGood M' 0) (hi : Cond.static M'.1 ∈ TBL) (hf : MFits M M') (hw : Cond.methodLinkNest M.1.cls idx M'.1 host ∈ tables_1) (hst : (st.map catv).sum ≤ 8) (k : ∀ v, o' = some v → SR l G Sh M (kk v) J pc' lv (vR v :: st) μ) : SR l G Sh M (o'.bind kk) J pc lv (st) μ := fun b0 hb0 => by
  subst hp
  obtain ⟨v, hv, hkk⟩ := Option.bind_eq_some_iff.mp hb0
  exact ra_callSN (as := []) (hs v hv) hd hg hi hf hw rfl hst (fun r μ' hq ho => by
  cases hq
  exact k _ hv b0 hkk)
theorem sr_callSN0_U {l : Launch} {G : Nv} {Sh : Shp} {M : MD} {β : Type} {J : β → Option MV × Mem} {pc pc' : Nat} {lv : List (Option MV)} {st : List MV} {μ : Mem} {M' : MD} {o' : Option (Unit)} {kk : Unit → Option β} {idx : Nat} {host : String} (hs : SP l G Sh M' [] μ o' (jU μ)) (hd : decode M.2.1 pc = .ok (.invokestatic idx, 3)) (hp : pc + 3 = pc') (hg : MGood M' 0) (hi : Cond.static M'.1 ∈ TBL) (hf : MFits M M') (hw : Cond.methodLinkNest M.1.cls idx M'.1 host ∈ tables_1) (hst : (st.map catv).sum ≤ 8) (k : ∀ v, o' = some v → SR l G Sh M (kk v) J pc' lv (st) μ) : SR l G Sh M (o'.bind kk) J pc lv (st) μ := fun b0 hb0 => by
  subst hp
  obtain ⟨v, hv, hkk⟩ := Option.bind_eq_some_iff.mp hb0
  exact ra_callSN (as := []) (hs v hv) hd hg hi hf hw rfl hst (fun r μ' hq ho => by
  cases hq
  exact k _ hv b0 hkk)
theorem sr_callSN0_IM {l : Launch} {G : Nv} {Sh : Shp} {M : MD} {β : Type} {J : β → Option MV × Mem} {pc pc' : Nat} {lv : List (Option MV)} {st : List MV} {μ : Mem} {M' : MD} {o' : Option (Int × Mem)} {kk : Int × Mem → Option β} {idx : Nat} {host : String} (hs : SP l G Sh M' [] μ o' (jIM)) (hd : decode M.2.1 pc = .ok (.invokestatic idx, 3)) (hp : pc + 3 = pc') (hg : MGood M' 0) (hi : Cond.static M'.1 ∈ TBL) (hf : MFits M M') (hw : Cond.methodLinkNest M.1.cls idx M'.1 host ∈ tables_1) (hst : (st.map catv).sum ≤ 8) (k : ∀ v, o' = some v → C32 v.1 → (M'.2.2.2.1 = some .boolean → v.1 = 0 ∨ v.1 = 1) → SR l G Sh M (kk v) J pc' lv (vI v.1 :: st) v.2) : SR l G Sh M (o'.bind kk) J pc lv (st) μ := fun b0 hb0 => by
  subst hp
  obtain ⟨v, hv, hkk⟩ := Option.bind_eq_some_iff.mp hb0
  exact ra_callSN (as := []) (hs v hv) hd hg hi hf hw rfl hst (fun r μ' hq ho => by
  cases hq
  exact k _ hv ho.1 (fun h => by obtain ⟨x, hx, h01⟩ := ho.2 h; cases hx; exact h01) b0 hkk)
theorem sr_callSN0_M {l : Launch} {G : Nv} {Sh : Shp} {M : MD} {β : Type} {J : β → Option MV × Mem} {pc pc' : Nat} {lv : List (Option MV)} {st : List MV} {μ : Mem} {M' : MD} {o' : Option (Mem)} {kk : Mem → Option β} {idx : Nat} {host : String} (hs : SP l G Sh M' [] μ o' (jM)) (hd : decode M.2.1 pc = .ok (.invokestatic idx, 3)) (hp : pc + 3 = pc') (hg : MGood M' 0) (hi : Cond.static M'.1 ∈ TBL) (hf : MFits M M') (hw : Cond.methodLinkNest M.1.cls idx M'.1 host ∈ tables_1) (hst : (st.map catv).sum ≤ 8) (k : ∀ v, o' = some v → SR l G Sh M (kk v) J pc' lv (st) v) : SR l G Sh M (o'.bind kk) J pc lv (st) μ := fun b0 hb0 => by
  subst hp
  obtain ⟨v, hv, hkk⟩ := Option.bind_eq_some_iff.mp hb0
  exact ra_callSN (as := []) (hs v hv) hd hg hi hf hw rfl hst (fun r μ' hq ho => by
  cases hq
  exact k _ hv b0 hkk)
theorem sr_callSN1_I {l : Launch} {G : Nv} {Sh : Shp} {M : MD} {β : Type} {J : β → Option MV × Mem} {pc pc' : Nat} {lv : List (Option MV)} {st : List MV} {μ : Mem} {M' : MD} {o' : Option (Int)} {kk : Int → Option β} {a0 : MV} {idx : Nat} {host : String} (hs : SP l G Sh M' [a0] μ o' (jI μ)) (hd : decode M.2.1 pc = .ok (.invokestatic idx, 3)) (hp : pc + 3 = pc') (hg : MGood M' 1) (hi : Cond.static M'.1 ∈ TBL) (hf : MFits M M') (hw : Cond.methodLinkNest M.1.cls idx M'.1 host ∈ tables_1) (hst : (st.map catv).sum ≤ 8) (k : ∀ v, o' = some v → C32 v → (M'.2.2.2.1 = some .boolean → v = 0 ∨ v = 1) → SR l G Sh M (kk v) J pc' lv (vI v :: st) μ) : SR l G Sh M (o'.bind kk) J pc lv (a0 :: st) μ := fun b0 hb0 => by
  subst hp
  obtain ⟨v, hv, hkk⟩ := Option.bind_eq_some_iff.mp hb0
  exact ra_callSN (as := [a0]) (hs v hv) hd hg hi hf hw rfl hst (fun r μ' hq ho => by
  cases hq
  exact k _ hv ho.1 (fun h => by obtain ⟨x, hx, h01⟩ := ho.2 h; cases hx; exact h01) b0 hkk)
theorem sr_callSN1_L {l : Launch} {G : Nv} {Sh : Shp} {M : MD} {β : Type} {J : β → Option MV × Mem} {pc pc' : Nat} {lv : List (Option MV)} {st : List MV} {μ : Mem} {M' : MD} {o' : Option (Int)} {kk : Int → Option β} {a0 : MV} {idx : Nat} {host : String} (hs : SP l G Sh M' [a0] μ o' (jL μ)) (hd : decode M.2.1 pc = .ok (.invokestatic idx, 3)) (hp : pc + 3 = pc') (hg : MGood M' 1) (hi : Cond.static M'.1 ∈ TBL) (hf : MFits M M') (hw : Cond.methodLinkNest M.1.cls idx M'.1 host ∈ tables_1) (hst : (st.map catv).sum ≤ 8) (k : ∀ v, o' = some v → C64 v → SR l G Sh M (kk v) J pc' lv (vL v :: st) μ) : SR l G Sh M (o'.bind kk) J pc lv (a0 :: st) μ := fun b0 hb0 => by
  subst hp
  obtain ⟨v, hv, hkk⟩ := Option.bind_eq_some_iff.mp hb0
  exact ra_callSN (as := [a0]) (hs v hv) hd hg hi hf hw rfl hst (fun r μ' hq ho => by
  cases hq
  exact k _ hv ho.1 b0 hkk)
theorem sr_callSN1_R {l : Launch} {G : Nv} {Sh : Shp} {M : MD} {β : Type} {J : β → Option MV × Mem} {pc pc' : Nat} {lv : List (Option MV)} {st : List MV} {μ : Mem} {M' : MD} {o' : Option (Nat)} {kk : Nat → Option β} {a0 : MV} {idx : Nat} {host : String} (hs : SP l G Sh M' [a0] μ o' (jR μ)) (hd : decode M.2.1 pc = .ok (.invokestatic idx, 3)) (hp : pc + 3 = pc') (hg : MGood M' 1) (hi : Cond.static M'.1 ∈ TBL) (hf : MFits M M') (hw : Cond.methodLinkNest M.1.cls idx M'.1 host ∈ tables_1) (hst : (st.map catv).sum ≤ 8) (k : ∀ v, o' = some v → SR l G Sh M (kk v) J pc' lv (vR v :: st) μ) : SR l G Sh M (o'.bind kk) J pc lv (a0 :: st) μ := fun b0 hb0 => by
  subst hp
  obtain ⟨v, hv, hkk⟩ := Option.bind_eq_some_iff.mp hb0
  exact ra_callSN (as := [a0]) (hs v hv) hd hg hi hf hw rfl hst (fun r μ' hq ho => by
  cases hq
  exact k _ hv b0 hkk)
theorem sr_callSN1_U {l : Launch} {G : Nv} {Sh : Shp} {M : MD} {β : Type} {J : β → Option MV × Mem} {pc pc' : Nat} {lv : List (Option MV)} {st : List MV} {μ : Mem} {M' : MD} {o' : Option (Unit)} {kk : Unit → Option β} {a0 : MV} {idx : Nat} {host : String} (hs : SP l G Sh M' [a0] μ o' (jU μ)) (hd : decode M.2.1 pc = .ok (.invokestatic idx, 3)) (hp : pc + 3 = pc') (hg : MGood M' 1) (hi : Cond.static M'.1 ∈ TBL) (hf : MFits M M') (hw : Cond.methodLinkNest M.1.cls idx M'.1 host ∈ tables_1) (hst : (st.map catv).sum ≤ 8) (k : ∀ v, o' = some v → SR l G Sh M (kk v) J pc' lv (st) μ) : SR l G Sh M (o'.bind kk) J pc lv (a0 :: st) μ := fun b0 hb0 => by
  subst hp
  obtain ⟨v, hv, hkk⟩ := Option.bind_eq_some_iff.mp hb0
  exact ra_callSN (as := [a0]) (hs v hv) hd hg hi hf hw rfl hst (fun r μ' hq ho => by
  cases hq
  exact k _ hv b0 hkk)
theorem sr_callSN1_IM {l : Launch} {G : Nv} {Sh : Shp} {M : MD} {β : Type} {J : β → Option MV × Mem} {pc pc' : Nat} {lv : List (Option MV)} {st : List MV} {μ : Mem} {M' : MD} {o' : Option (Int × Mem)} {kk : Int × Mem → Option β} {a0 : MV} {idx : Nat} {host : String} (hs : SP l G Sh M' [a0] μ o' (jIM)) (hd : decode M.2.1 pc = .ok (.invokestatic idx, 3)) (hp : pc + 3 = pc') (hg : MGood M' 1) (hi : Cond.static M'.1 ∈ TBL) (hf : MFits M M') (hw : Cond.methodLinkNest M.1.cls idx M'.1 host ∈ tables_1) (hst : (st.map catv).sum ≤ 8) (k : ∀ v, o' = some v → C32 v.1 → (M'.2.2.2.1 = some .boolean → v.1 = 0 ∨ v.1 = 1) → SR l G Sh M (kk v) J pc' lv (vI v.1 :: st) v.2) : SR l G Sh M (o'.bind kk) J pc lv (a0 :: st) μ := fun b0 hb0 => by
  subst hp
  obtain ⟨v, hv, hkk⟩ := Option.bind_eq_some_iff.mp hb0
  exact ra_callSN (as := [a0]) (hs v hv) hd hg hi hf hw rfl hst (fun r μ' hq ho => by
  cases hq
  exact k _ hv ho.1 (fun h => by obtain ⟨x, hx, h01⟩ := ho.2 h; cases hx; exact h01) b0 hkk)
theorem sr_callSN1_M {l : Launch} {G : Nv} {Sh : Shp} {M : MD} {β : Type} {J : β → Option MV × Mem} {pc pc' : Nat} {lv : List (Option MV)} {st : List MV} {μ : Mem} {M' : MD} {o' : Option (Mem)} {kk : Mem → Option β} {a0 : MV} {idx : Nat} {host : String} (hs : SP l G Sh M' [a0] μ o' (jM)) (hd : decode M.2.1 pc = .ok (.invokestatic idx, 3)) (hp : pc + 3 = pc') (hg : MGood M' 1) (hi : Cond.static M'.1 ∈ TBL) (hf : MFits M M') (hw : Cond.methodLinkNest M.1.cls idx M'.1 host ∈ tables_1) (hst : (st.map catv).sum ≤ 8) (k : ∀ v, o' = some v → SR l G Sh M (kk v) J pc' lv (st) v) : SR l G Sh M (o'.bind kk) J pc lv (a0 :: st) μ := fun b0 hb0 => by
  subst hp
  obtain ⟨v, hv, hkk⟩ := Option.bind_eq_some_iff.mp hb0
  exact ra_callSN (as := [a0]) (hs v hv) hd hg hi hf hw rfl hst (fun r μ' hq ho => by
  cases hq
  exact k _ hv b0 hkk)
theorem sr_callSN2_I {l : Launch} {G : Nv} {Sh : Shp} {M : MD} {β : Type} {J : β → Option MV × Mem} {pc pc' : Nat} {lv : List (Option MV)} {st : List MV} {μ : Mem} {M' : MD} {o' : Option (Int)} {kk : Int → Option β} {a0 a1 : MV} {idx : Nat} {host : String} (hs : SP l G Sh M' [a0, a1] μ o' (jI μ)) (hd : decode M.2.1 pc = .ok (.invokestatic idx, 3)) (hp : pc + 3 = pc') (hg : MGood M' 2) (hi : Cond.static M'.1 ∈ TBL) (hf : MFits M M') (hw : Cond.methodLinkNest M.1.cls idx M'.1 host ∈ tables_1) (hst : (st.map catv).sum ≤ 8) (k : ∀ v, o' = some v → C32 v → (M'.2.2.2.1 = some .boolean → v = 0 ∨ v = 1) → SR l G Sh M (kk v) J pc' lv (vI v :: st) μ) : SR l G Sh M (o'.bind kk) J pc lv (a1 :: a0 :: st) μ := fun b0 hb0 => by
  subst hp
  obtain ⟨v, hv, hkk⟩ := Option.bind_eq_some_iff.mp hb0
  exact ra_callSN (as := [a0, a1]) (hs v hv) hd hg hi hf hw rfl hst (fun r μ' hq ho => by
  cases hq
  exact k _ hv ho.1 (fun h => by obtain ⟨x, hx, h01⟩ := ho.2 h; cases hx; exact h01) b0 hkk)
theorem sr_callSN2_L {l : Launch} {G : Nv} {Sh : Shp} {M : MD} {β : Type} {J : β → Option MV × Mem} {pc pc' : Nat} {lv : List (Option MV)} {st : List MV} {μ : Mem} {M' : MD} {o' : Option (Int)} {kk : Int → Option β} {a0 a1 : MV} {idx : Nat} {host : String} (hs : SP l G Sh M' [a0, a1] μ o' (jL μ)) (hd : decode M.2.1 pc = .ok (.invokestatic idx, 3)) (hp : pc + 3 = pc') (hg : MGood M' 2) (hi : Cond.static M'.1 ∈ TBL) (hf : MFits M M') (hw : Cond.methodLinkNest M.1.cls idx M'.1 host ∈ tables_1) (hst : (st.map catv).sum ≤ 8) (k : ∀ v, o' = some v → C64 v → SR l G Sh M (kk v) J pc' lv (vL v :: st) μ) : SR l G Sh M (o'.bind kk) J pc lv (a1 :: a0 :: st) μ := fun b0 hb0 => by
  subst hp
  obtain ⟨v, hv, hkk⟩ := Option.bind_eq_some_iff.mp hb0
  exact ra_callSN (as := [a0, a1]) (hs v hv) hd hg hi hf hw rfl hst (fun r μ' hq ho => by
  cases hq
  exact k _ hv ho.1 b0 hkk)
theorem sr_callSN2_R {l : Launch} {G : Nv} {Sh : Shp} {M : MD} {β : Type} {J : β → Option MV × Mem} {pc pc' : Nat} {lv : List (Option MV)} {st : List MV} {μ : Mem} {M' : MD} {o' : Option (Nat)} {kk : Nat → Option β} {a0 a1 : MV} {idx : Nat} {host : String} (hs : SP l G Sh M' [a0, a1] μ o' (jR μ)) (hd : decode M.2.1 pc = .ok (.invokestatic idx, 3)) (hp : pc + 3 = pc') (hg : MGood M' 2) (hi : Cond.static M'.1 ∈ TBL) (hf : MFits M M') (hw : Cond.methodLinkNest M.1.cls idx M'.1 host ∈ tables_1) (hst : (st.map catv).sum ≤ 8) (k : ∀ v, o' = some v → SR l G Sh M (kk v) J pc' lv (vR v :: st) μ) : SR l G Sh M (o'.bind kk) J pc lv (a1 :: a0 :: st) μ := fun b0 hb0 => by
  subst hp
  obtain ⟨v, hv, hkk⟩ := Option.bind_eq_some_iff.mp hb0
  exact ra_callSN (as := [a0, a1]) (hs v hv) hd hg hi hf hw rfl hst (fun r μ' hq ho => by
  cases hq
  exact k _ hv b0 hkk)
theorem sr_callSN2_U {l : Launch} {G : Nv} {Sh : Shp} {M : MD} {β : Type} {J : β → Option MV × Mem} {pc pc' : Nat} {lv : List (Option MV)} {st : List MV} {μ : Mem} {M' : MD} {o' : Option (Unit)} {kk : Unit → Option β} {a0 a1 : MV} {idx : Nat} {host : String} (hs : SP l G Sh M' [a0, a1] μ o' (jU μ)) (hd : decode M.2.1 pc = .ok (.invokestatic idx, 3)) (hp : pc + 3 = pc') (hg : MGood M' 2) (hi : Cond.static M'.1 ∈ TBL) (hf : MFits M M') (hw : Cond.methodLinkNest M.1.cls idx M'.1 host ∈ tables_1) (hst : (st.map catv).sum ≤ 8) (k : ∀ v, o' = some v → SR l G Sh M (kk v) J pc' lv (st) μ) : SR l G Sh M (o'.bind kk) J pc lv (a1 :: a0 :: st) μ := fun b0 hb0 => by
  subst hp
  obtain ⟨v, hv, hkk⟩ := Option.bind_eq_some_iff.mp hb0
  exact ra_callSN (as := [a0, a1]) (hs v hv) hd hg hi hf hw rfl hst (fun r μ' hq ho => by
  cases hq
  exact k _ hv b0 hkk)
theorem sr_callSN2_IM {l : Launch} {G : Nv} {Sh : Shp} {M : MD} {β : Type} {J : β → Option MV × Mem} {pc pc' : Nat} {lv : List (Option MV)} {st : List MV} {μ : Mem} {M' : MD} {o' : Option (Int × Mem)} {kk : Int × Mem → Option β} {a0 a1 : MV} {idx : Nat} {host : String} (hs : SP l G Sh M' [a0, a1] μ o' (jIM)) (hd : decode M.2.1 pc = .ok (.invokestatic idx, 3)) (hp : pc + 3 = pc') (hg : MGood M' 2) (hi : Cond.static M'.1 ∈ TBL) (hf : MFits M M') (hw : Cond.methodLinkNest M.1.cls idx M'.1 host ∈ tables_1) (hst : (st.map catv).sum ≤ 8) (k : ∀ v, o' = some v → C32 v.1 → (M'.2.2.2.1 = some .boolean → v.1 = 0 ∨ v.1 = 1) → SR l G Sh M (kk v) J pc' lv (vI v.1 :: st) v.2) : SR l G Sh M (o'.bind kk) J pc lv (a1 :: a0 :: st) μ := fun b0 hb0 => by
  subst hp
  obtain ⟨v, hv, hkk⟩ := Option.bind_eq_some_iff.mp hb0
  exact ra_callSN (as := [a0, a1]) (hs v hv) hd hg hi hf hw rfl hst (fun r μ' hq ho => by
  cases hq
  exact k _ hv ho.1 (fun h => by obtain ⟨x, hx, h01⟩ := ho.2 h; cases hx; exact h01) b0 hkk)
theorem sr_callSN2_M {l : Launch} {G : Nv} {Sh : Shp} {M : MD} {β : Type} {J : β → Option MV × Mem} {pc pc' : Nat} {lv : List (Option MV)} {st : List MV} {μ : Mem} {M' : MD} {o' : Option (Mem)} {kk : Mem → Option β} {a0 a1 : MV} {idx : Nat} {host : String} (hs : SP l G Sh M' [a0, a1] μ o' (jM)) (hd : decode M.2.1 pc = .ok (.invokestatic idx, 3)) (hp : pc + 3 = pc') (hg : MGood M' 2) (hi : Cond.static M'.1 ∈ TBL) (hf : MFits M M') (hw : Cond.methodLinkNest M.1.cls idx M'.1 host ∈ tables_1) (hst : (st.map catv).sum ≤ 8) (k : ∀ v, o' = some v → SR l G Sh M (kk v) J pc' lv (st) v) : SR l G Sh M (o'.bind kk) J pc lv (a1 :: a0 :: st) μ := fun b0 hb0 => by
  subst hp
  obtain ⟨v, hv, hkk⟩ := Option.bind_eq_some_iff.mp hb0
  exact ra_callSN (as := [a0, a1]) (hs v hv) hd hg hi hf hw rfl hst (fun r μ' hq ho => by
  cases hq
  exact k _ hv b0 hkk)
theorem sr_callSN3_I {l : Launch} {G : Nv} {Sh : Shp} {M : MD} {β : Type} {J : β → Option MV × Mem} {pc pc' : Nat} {lv : List (Option MV)} {st : List MV} {μ : Mem} {M' : MD} {o' : Option (Int)} {kk : Int → Option β} {a0 a1 a2 : MV} {idx : Nat} {host : String} (hs : SP l G Sh M' [a0, a1, a2] μ o' (jI μ)) (hd : decode M.2.1 pc = .ok (.invokestatic idx, 3)) (hp : pc + 3 = pc') (hg : MGood M' 3) (hi : Cond.static M'.1 ∈ TBL) (hf : MFits M M') (hw : Cond.methodLinkNest M.1.cls idx M'.1 host ∈ tables_1) (hst : (st.map catv).sum ≤ 8) (k : ∀ v, o' = some v → C32 v → (M'.2.2.2.1 = some .boolean → v = 0 ∨ v = 1) → SR l G Sh M (kk v) J pc' lv (vI v :: st) μ) : SR l G Sh M (o'.bind kk) J pc lv (a2 :: a1 :: a0 :: st) μ := fun b0 hb0 => by
  subst hp
  obtain ⟨v, hv, hkk⟩ := Option.bind_eq_some_iff.mp hb0
  exact ra_callSN (as := [a0, a1, a2]) (hs v hv) hd hg hi hf hw rfl hst (fun r μ' hq ho => by
  cases hq
  exact k _ hv ho.1 (fun h => by obtain ⟨x, hx, h01⟩ := ho.2 h; cases hx; exact h01) b0 hkk)
theorem sr_callSN3_L {l : Launch} {G : Nv} {Sh : Shp} {M : MD} {β : Type} {J : β → Option MV × Mem} {pc pc' : Nat} {lv : List (Option MV)} {st : List MV} {μ : Mem} {M' : MD} {o' : Option (Int)} {kk : Int → Option β} {a0 a1 a2 : MV} {idx : Nat} {host : String} (hs : SP l G Sh M' [a0, a1, a2] μ o' (jL μ)) (hd : decode M.2.1 pc = .ok (.invokestatic idx, 3)) (hp : pc + 3 = pc') (hg : MGood M' 3) (hi : Cond.static M'.1 ∈ TBL) (hf : MFits M M') (hw : Cond.methodLinkNest M.1.cls idx M'.1 host ∈ tables_1) (hst : (st.map catv).sum ≤ 8) (k : ∀ v, o' = some v → C64 v → SR l G Sh M (kk v) J pc' lv (vL v :: st) μ) : SR l G Sh M (o'.bind kk) J pc lv (a2 :: a1 :: a0 :: st) μ := fun b0 hb0 => by
  subst hp
  obtain ⟨v, hv, hkk⟩ := Option.bind_eq_some_iff.mp hb0
  exact ra_callSN (as := [a0, a1, a2]) (hs v hv) hd hg hi hf hw rfl hst (fun r μ' hq ho => by
  cases hq
  exact k _ hv ho.1 b0 hkk)
theorem sr_callSN3_R {l : Launch} {G : Nv} {Sh : Shp} {M : MD} {β : Type} {J : β → Option MV × Mem} {pc pc' : Nat} {lv : List (Option MV)} {st : List MV} {μ : Mem} {M' : MD} {o' : Option (Nat)} {kk : Nat → Option β} {a0 a1 a2 : MV} {idx : Nat} {host : String} (hs : SP l G Sh M' [a0, a1, a2] μ o' (jR μ)) (hd : decode M.2.1 pc = .ok (.invokestatic idx, 3)) (hp : pc + 3 = pc') (hg : MGood M' 3) (hi : Cond.static M'.1 ∈ TBL) (hf : MFits M M') (hw : Cond.methodLinkNest M.1.cls idx M'.1 host ∈ tables_1) (hst : (st.map catv).sum ≤ 8) (k : ∀ v, o' = some v → SR l G Sh M (kk v) J pc' lv (vR v :: st) μ) : SR l G Sh M (o'.bind kk) J pc lv (a2 :: a1 :: a0 :: st) μ := fun b0 hb0 => by
  subst hp
  obtain ⟨v, hv, hkk⟩ := Option.bind_eq_some_iff.mp hb0
  exact ra_callSN (as := [a0, a1, a2]) (hs v hv) hd hg hi hf hw rfl hst (fun r μ' hq ho => by
  cases hq
  exact k _ hv b0 hkk)
theorem sr_callSN3_U {l : Launch} {G : Nv} {Sh : Shp} {M : MD} {β : Type} {J : β → Option MV × Mem} {pc pc' : Nat} {lv : List (Option MV)} {st : List MV} {μ : Mem} {M' : MD} {o' : Option (Unit)} {kk : Unit → Option β} {a0 a1 a2 : MV} {idx : Nat} {host : String} (hs : SP l G Sh M' [a0, a1, a2] μ o' (jU μ)) (hd : decode M.2.1 pc = .ok (.invokestatic idx, 3)) (hp : pc + 3 = pc') (hg : MGood M' 3) (hi : Cond.static M'.1 ∈ TBL) (hf : MFits M M') (hw : Cond.methodLinkNest M.1.cls idx M'.1 host ∈ tables_1) (hst : (st.map catv).sum ≤ 8) (k : ∀ v, o' = some v → SR l G Sh M (kk v) J pc' lv (st) μ) : SR l G Sh M (o'.bind kk) J pc lv (a2 :: a1 :: a0 :: st) μ := fun b0 hb0 => by
  subst hp
  obtain ⟨v, hv, hkk⟩ := Option.bind_eq_some_iff.mp hb0
  exact ra_callSN (as := [a0, a1, a2]) (hs v hv) hd hg hi hf hw rfl hst (fun r μ' hq ho => by
  cases hq
  exact k _ hv b0 hkk)
theorem sr_callSN3_IM {l : Launch} {G : Nv} {Sh : Shp} {M : MD} {β : Type} {J : β → Option MV × Mem} {pc pc' : Nat} {lv : List (Option MV)} {st : List MV} {μ : Mem} {M' : MD} {o' : Option (Int × Mem)} {kk : Int × Mem → Option β} {a0 a1 a2 : MV} {idx : Nat} {host : String} (hs : SP l G Sh M' [a0, a1, a2] μ o' (jIM)) (hd : decode M.2.1 pc = .ok (.invokestatic idx, 3)) (hp : pc + 3 = pc') (hg : MGood M' 3) (hi : Cond.static M'.1 ∈ TBL) (hf : MFits M M') (hw : Cond.methodLinkNest M.1.cls idx M'.1 host ∈ tables_1) (hst : (st.map catv).sum ≤ 8) (k : ∀ v, o' = some v → C32 v.1 → (M'.2.2.2.1 = some .boolean → v.1 = 0 ∨ v.1 = 1) → SR l G Sh M (kk v) J pc' lv (vI v.1 :: st) v.2) : SR l G Sh M (o'.bind kk) J pc lv (a2 :: a1 :: a0 :: st) μ := fun b0 hb0 => by
  subst hp
  obtain ⟨v, hv, hkk⟩ := Option.bind_eq_some_iff.mp hb0
  exact ra_callSN (as := [a0, a1, a2]) (hs v hv) hd hg hi hf hw rfl hst (fun r μ' hq ho => by
  cases hq
  exact k _ hv ho.1 (fun h => by obtain ⟨x, hx, h01⟩ := ho.2 h; cases hx; exact h01) b0 hkk)
theorem sr_callSN3_M {l : Launch} {G : Nv} {Sh : Shp} {M : MD} {β : Type} {J : β → Option MV × Mem} {pc pc' : Nat} {lv : List (Option MV)} {st : List MV} {μ : Mem} {M' : MD} {o' : Option (Mem)} {kk : Mem → Option β} {a0 a1 a2 : MV} {idx : Nat} {host : String} (hs : SP l G Sh M' [a0, a1, a2] μ o' (jM)) (hd : decode M.2.1 pc = .ok (.invokestatic idx, 3)) (hp : pc + 3 = pc') (hg : MGood M' 3) (hi : Cond.static M'.1 ∈ TBL) (hf : MFits M M') (hw : Cond.methodLinkNest M.1.cls idx M'.1 host ∈ tables_1) (hst : (st.map catv).sum ≤ 8) (k : ∀ v, o' = some v → SR l G Sh M (kk v) J pc' lv (st) v) : SR l G Sh M (o'.bind kk) J pc lv (a2 :: a1 :: a0 :: st) μ := fun b0 hb0 => by
  subst hp
  obtain ⟨v, hv, hkk⟩ := Option.bind_eq_some_iff.mp hb0
  exact ra_callSN (as := [a0, a1, a2]) (hs v hv) hd hg hi hf hw rfl hst (fun r μ' hq ho => by
  cases hq
  exact k _ hv b0 hkk)
theorem sr_callSN4_I {l : Launch} {G : Nv} {Sh : Shp} {M : MD} {β : Type} {J : β → Option MV × Mem} {pc pc' : Nat} {lv : List (Option MV)} {st : List MV} {μ : Mem} {M' : MD} {o' : Option (Int)} {kk : Int → Option β} {a0 a1 a2 a3 : MV} {idx : Nat} {host : String} (hs : SP l G Sh M' [a0, a1, a2, a3] μ o' (jI μ)) (hd : decode M.2.1 pc = .ok (.invokestatic idx, 3)) (hp : pc + 3 = pc') (hg : MGood M' 4) (hi : Cond.static M'.1 ∈ TBL) (hf : MFits M M') (hw : Cond.methodLinkNest M.1.cls idx M'.1 host ∈ tables_1) (hst : (st.map catv).sum ≤ 8) (k : ∀ v, o' = some v → C32 v → (M'.2.2.2.1 = some .boolean → v = 0 ∨ v = 1) → SR l G Sh M (kk v) J pc' lv (vI v :: st) μ) : SR l G Sh M (o'.bind kk) J pc lv (a3 :: a2 :: a1 :: a0 :: st) μ := fun b0 hb0 => by
  subst hp
  obtain ⟨v, hv, hkk⟩ := Option.bind_eq_some_iff.mp hb0
  exact ra_callSN (as := [a0, a1, a2, a3]) (hs v hv) hd hg hi hf hw rfl hst (fun r μ' hq ho => by
  cases hq
  exact k _ hv ho.1 (fun h => by obtain ⟨x, hx, h01⟩ := ho.2 h; cases hx; exact h01) b0 hkk)
theorem sr_callSN4_L {l : Launch} {G : Nv} {Sh : Shp} {M : MD} {β : Type} {J : β → Option MV × Mem} {pc pc' : Nat} {lv : List (Option MV)} {st : List MV} {μ : Mem} {M' : MD} {o' : Option (Int)} {kk : Int → Option β} {a0 a1 a2 a3 : MV} {idx : Nat} {host : String} (hs : SP l G Sh M' [a0, a1, a2, a3] μ o' (jL μ)) (hd : decode M.2.1 pc = .ok (.invokestatic idx, 3)) (hp : pc + 3 = pc') (hg : MGood M' 4) (hi : Cond.static M'.1 ∈ TBL) (hf : MFits M M') (hw : Cond.methodLinkNest M.1.cls idx M'.1 host ∈ tables_1) (hst : (st.map catv).sum ≤ 8) (k : ∀ v, o' = some v → C64 v → SR l G Sh M (kk v) J pc' lv (vL v :: st) μ) : SR l G Sh M (o'.bind kk) J pc lv (a3 :: a2 :: a1 :: a0 :: st) μ := fun b0 hb0 => by
  subst hp
  obtain ⟨v, hv, hkk⟩ := Option.bind_eq_some_iff.mp hb0
  exact ra_callSN (as := [a0, a1, a2, a3]) (hs v hv) hd hg hi hf hw rfl hst (fun r μ' hq ho => by
  cases hq
  exact k _ hv ho.1 b0 hkk)
theorem sr_callSN4_R {l : Launch} {G : Nv} {Sh : Shp} {M : MD} {β : Type} {J : β → Option MV × Mem} {pc pc' : Nat} {lv : List (Option MV)} {st : List MV} {μ : Mem} {M' : MD} {o' : Option (Nat)} {kk : Nat → Option β} {a0 a1 a2 a3 : MV} {idx : Nat} {host : String} (hs : SP l G Sh M' [a0, a1, a2, a3] μ o' (jR μ)) (hd : decode M.2.1 pc = .ok (.invokestatic idx, 3)) (hp : pc + 3 = pc') (hg : MGood M' 4) (hi : Cond.static M'.1 ∈ TBL) (hf : MFits M M') (hw : Cond.methodLinkNest M.1.cls idx M'.1 host ∈ tables_1) (hst : (st.map catv).sum ≤ 8) (k : ∀ v, o' = some v → SR l G Sh M (kk v) J pc' lv (vR v :: st) μ) : SR l G Sh M (o'.bind kk) J pc lv (a3 :: a2 :: a1 :: a0 :: st) μ := fun b0 hb0 => by
  subst hp
  obtain ⟨v, hv, hkk⟩ := Option.bind_eq_some_iff.mp hb0
  exact ra_callSN (as := [a0, a1, a2, a3]) (hs v hv) hd hg hi hf hw rfl hst (fun r μ' hq ho => by
  cases hq
  exact k _ hv b0 hkk)
theorem sr_callSN4_U {l : Launch} {G : Nv} {Sh : Shp} {M : MD} {β : Type} {J : β → Option MV × Mem} {pc pc' : Nat} {lv : List (Option MV)} {st : List MV} {μ : Mem} {M' : MD} {o' : Option (Unit)} {kk : Unit → Option β} {a0 a1 a2 a3 : MV} {idx : Nat} {host : String} (hs : SP l G Sh M' [a0, a1, a2, a3] μ o' (jU μ)) (hd : decode M.2.1 pc = .ok (.invokestatic idx, 3)) (hp : pc + 3 = pc') (hg : MGood M' 4) (hi : Cond.static M'.1 ∈ TBL) (hf : MFits M M') (hw : Cond.methodLinkNest M.1.cls idx M'.1 host ∈ tables_1) (hst : (st.map catv).sum ≤ 8) (k : ∀ v, o' = some v → SR l G Sh M (kk v) J pc' lv (st) μ) : SR l G Sh M (o'.bind kk) J pc lv (a3 :: a2 :: a1 :: a0 :: st) μ := fun b0 hb0 => by
  subst hp
  obtain ⟨v, hv, hkk⟩ := Option.bind_eq_some_iff.mp hb0
  exact ra_callSN (as := [a0, a1, a2, a3]) (hs v hv) hd hg hi hf hw rfl hst (fun r μ' hq ho => by
  cases hq
  exact k _ hv b0 hkk)
theorem sr_callSN4_IM {l : Launch} {G : Nv} {Sh : Shp} {M : MD} {β : Type} {J : β → Option MV × Mem} {pc pc' : Nat} {lv : List (Option MV)} {st : List MV} {μ : Mem} {M' : MD} {o' : Option (Int × Mem)} {kk : Int × Mem → Option β} {a0 a1 a2 a3 : MV} {idx : Nat} {host : String} (hs : SP l G Sh M' [a0, a1, a2, a3] μ o' (jIM)) (hd : decode M.2.1 pc = .ok (.invokestatic idx, 3)) (hp : pc + 3 = pc') (hg : MGood M' 4) (hi : Cond.static M'.1 ∈ TBL) (hf : MFits M M') (hw : Cond.methodLinkNest M.1.cls idx M'.1 host ∈ tables_1) (hst : (st.map catv).sum ≤ 8) (k : ∀ v, o' = some v → C32 v.1 → (M'.2.2.2.1 = some .boolean → v.1 = 0 ∨ v.1 = 1) → SR l G Sh M (kk v) J pc' lv (vI v.1 :: st) v.2) : SR l G Sh M (o'.bind kk) J pc lv (a3 :: a2 :: a1 :: a0 :: st) μ := fun b0 hb0 => by
  subst hp
  obtain ⟨v, hv, hkk⟩ := Option.bind_eq_some_iff.mp hb0
  exact ra_callSN (as := [a0, a1, a2, a3]) (hs v hv) hd hg hi hf hw rfl hst (fun r μ' hq ho => by
  cases hq
  exact k _ hv ho.1 (fun h => by obtain ⟨x, hx, h01⟩ := ho.2 h; cases hx; exact h01) b0 hkk)
theorem sr_callSN4_M {l : Launch} {G : Nv} {Sh : Shp} {M : MD} {β : Type} {J : β → Option MV × Mem} {pc pc' : Nat} {lv : List (Option MV)} {st : List MV} {μ : Mem} {M' : MD} {o' : Option (Mem)} {kk : Mem → Option β} {a0 a1 a2 a3 : MV} {idx : Nat} {host : String} (hs : SP l G Sh M' [a0, a1, a2, a3] μ o' (jM)) (hd : decode M.2.1 pc = .ok (.invokestatic idx, 3)) (hp : pc + 3 = pc') (hg : MGood M' 4) (hi : Cond.static M'.1 ∈ TBL) (hf : MFits M M') (hw : Cond.methodLinkNest M.1.cls idx M'.1 host ∈ tables_1) (hst : (st.map catv).sum ≤ 8) (k : ∀ v, o' = some v → SR l G Sh M (kk v) J pc' lv (st) v) : SR l G Sh M (o'.bind kk) J pc lv (a3 :: a2 :: a1 :: a0 :: st) μ := fun b0 hb0 => by
  subst hp
  obtain ⟨v, hv, hkk⟩ := Option.bind_eq_some_iff.mp hb0
  exact ra_callSN (as := [a0, a1, a2, a3]) (hs v hv) hd hg hi hf hw rfl hst (fun r μ' hq ho => by
  cases hq
  exact k _ hv b0 hkk)
theorem sr_callSN5_I {l : Launch} {G : Nv} {Sh : Shp} {M : MD} {β : Type} {J : β → Option MV × Mem} {pc pc' : Nat} {lv : List (Option MV)} {st : List MV} {μ : Mem} {M' : MD} {o' : Option (Int)} {kk : Int → Option β} {a0 a1 a2 a3 a4 : MV} {idx : Nat} {host : String} (hs : SP l G Sh M' [a0, a1, a2, a3, a4] μ o' (jI μ)) (hd : decode M.2.1 pc = .ok (.invokestatic idx, 3)) (hp : pc + 3 = pc') (hg : MGood M' 5) (hi : Cond.static M'.1 ∈ TBL) (hf : MFits M M') (hw : Cond.methodLinkNest M.1.cls idx M'.1 host ∈ tables_1) (hst : (st.map catv).sum ≤ 8) (k : ∀ v, o' = some v → C32 v → (M'.2.2.2.1 = some .boolean → v = 0 ∨ v = 1) → SR l G Sh M (kk v) J pc' lv (vI v :: st) μ) : SR l G Sh M (o'.bind kk) J pc lv (a4 :: a3 :: a2 :: a1 :: a0 :: st) μ := fun b0 hb0 => by
  subst hp
  obtain ⟨v, hv, hkk⟩ := Option.bind_eq_some_iff.mp hb0
  exact ra_callSN (as := [a0, a1, a2, a3, a4]) (hs v hv) hd hg hi hf hw rfl hst (fun r μ' hq ho => by
  cases hq
  exact k _ hv ho.1 (fun h => by obtain ⟨x, hx, h01⟩ := ho.2 h; cases hx; exact h01) b0 hkk)
theorem sr_callSN5_L {l : Launch} {G : Nv} {Sh : Shp} {M : MD} {β : Type} {J : β → Option MV × Mem} {pc pc' : Nat} {lv : List (Option MV)} {st : List MV} {μ : Mem} {M' : MD} {o' : Option (Int)} {kk : Int → Option β} {a0 a1 a2 a3 a4 : MV} {idx : Nat} {host : String} (hs : SP l G Sh M' [a0, a1, a2, a3, a4] μ o' (jL μ)) (hd : decode M.2.1 pc = .ok (.invokestatic idx, 3)) (hp : pc + 3 = pc') (hg : MGood M' 5) (hi : Cond.static M'.1 ∈ TBL) (hf : MFits M M') (hw : Cond.methodLinkNest M.1.cls idx M'.1 host ∈ tables_1) (hst : (st.map catv).sum ≤ 8) (k : ∀ v, o' = some v → C64 v → SR l G Sh M (kk v) J pc' lv (vL v :: st) μ) : SR l G Sh M (o'.bind kk) J pc lv (a4 :: a3 :: a2 :: a1 :: a0 :: st) μ := fun b0 hb0 => by
  subst hp
  obtain ⟨v, hv, hkk⟩ := Option.bind_eq_some_iff.mp hb0
  exact ra_callSN (as := [a0, a1, a2, a3, a4]) (hs v hv) hd hg hi hf hw rfl hst (fun r μ' hq ho => by
  cases hq
  exact k _ hv ho.1 b0 hkk)
theorem sr_callSN5_R {l : Launch} {G : Nv} {Sh : Shp} {M : MD} {β : Type} {J : β → Option MV × Mem} {pc pc' : Nat} {lv : List (Option MV)} {st : List MV} {μ : Mem} {M' : MD} {o' : Option (Nat)} {kk : Nat → Option β} {a0 a1 a2 a3 a4 : MV} {idx : Nat} {host : String} (hs : SP l G Sh M' [a0, a1, a2, a3, a4] μ o' (jR μ)) (hd : decode M.2.1 pc = .ok (.invokestatic idx, 3)) (hp : pc + 3 = pc') (hg : MGood M' 5) (hi : Cond.static M'.1 ∈ TBL) (hf : MFits M M') (hw : Cond.methodLinkNest M.1.cls idx M'.1 host ∈ tables_1) (hst : (st.map catv).sum ≤ 8) (k : ∀ v, o' = some v → SR l G Sh M (kk v) J pc' lv (vR v :: st) μ) : SR l G Sh M (o'.bind kk) J pc lv (a4 :: a3 :: a2 :: a1 :: a0 :: st) μ := fun b0 hb0 => by
  subst hp
  obtain ⟨v, hv, hkk⟩ := Option.bind_eq_some_iff.mp hb0
  exact ra_callSN (as := [a0, a1, a2, a3, a4]) (hs v hv) hd hg hi hf hw rfl hst (fun r μ' hq ho => by
  cases hq
  exact k _ hv b0 hkk)
theorem sr_callSN5_U {l : Launch} {G : Nv} {Sh : Shp} {M : MD} {β : Type} {J : β → Option MV × Mem} {pc pc' : Nat} {lv : List (Option MV)} {st : List MV} {μ : Mem} {M' : MD} {o' : Option (Unit)} {kk : Unit → Option β} {a0 a1 a2 a3 a4 : MV} {idx : Nat} {host : String} (hs : SP l G Sh M' [a0, a1, a2, a3, a4] μ o' (jU μ)) (hd : decode M.2.1 pc = .ok (.invokestatic idx, 3)) (hp : pc + 3 = pc') (hg : MGood M' 5) (hi : Cond.static M'.1 ∈ TBL) (hf : MFits M M') (hw : Cond.methodLinkNest M.1.cls idx M'.1 host ∈ tables_1) (hst : (st.map catv).sum ≤ 8) (k : ∀ v, o' = some v → SR l G Sh M (kk v) J pc' lv (st) μ) : SR l G Sh M (o'.bind kk) J pc lv (a4 :: a3 :: a2 :: a1 :: a0 :: st) μ := fun b0 hb0 => by
  subst hp
  obtain ⟨v, hv, hkk⟩ := Option.bind_eq_some_iff.mp hb0
  exact ra_callSN (as := [a0, a1, a2, a3, a4]) (hs v hv) hd hg hi hf hw rfl hst (fun r μ' hq ho => by
  cases hq
  exact k _ hv b0 hkk)
theorem sr_callSN5_IM {l : Launch} {G : Nv} {Sh : Shp} {M : MD} {β : Type} {J : β → Option MV × Mem} {pc pc' : Nat} {lv : List (Option MV)} {st : List MV} {μ : Mem} {M' : MD} {o' : Option (Int × Mem)} {kk : Int × Mem → Option β} {a0 a1 a2 a3 a4 : MV} {idx : Nat} {host : String} (hs : SP l G Sh M' [a0, a1, a2, a3, a4] μ o' (jIM)) (hd : decode M.2.1 pc = .ok (.invokestatic idx, 3)) (hp : pc + 3 = pc') (hg : MGood M' 5) (hi : Cond.static M'.1 ∈ TBL) (hf : MFits M M') (hw : Cond.methodLinkNest M.1.cls idx M'.1 host ∈ tables_1) (hst : (st.map catv).sum ≤ 8) (k : ∀ v, o' = some v → C32 v.1 → (M'.2.2.2.1 = some .boolean → v.1 = 0 ∨ v.1 = 1) → SR l G Sh M (kk v) J pc' lv (vI v.1 :: st) v.2) : SR l G Sh M (o'.bind kk) J pc lv (a4 :: a3 :: a2 :: a1 :: a0 :: st) μ := fun b0 hb0 => by
  subst hp
  obtain ⟨v, hv, hkk⟩ := Option.bind_eq_some_iff.mp hb0
  exact ra_callSN (as := [a0, a1, a2, a3, a4]) (hs v hv) hd hg hi hf hw rfl hst (fun r μ' hq ho => by
  cases hq
  exact k _ hv ho.1 (fun h => by obtain ⟨x, hx, h01⟩ := ho.2 h; cases hx; exact h01) b0 hkk)
theorem sr_callSN5_M {l : Launch} {G : Nv} {Sh : Shp} {M : MD} {β : Type} {J : β → Option MV × Mem} {pc pc' : Nat} {lv : List (Option MV)} {st : List MV} {μ : Mem} {M' : MD} {o' : Option (Mem)} {kk : Mem → Option β} {a0 a1 a2 a3 a4 : MV} {idx : Nat} {host : String} (hs : SP l G Sh M' [a0, a1, a2, a3, a4] μ o' (jM)) (hd : decode M.2.1 pc = .ok (.invokestatic idx, 3)) (hp : pc + 3 = pc') (hg : MGood M' 5) (hi : Cond.static M'.1 ∈ TBL) (hf : MFits M M') (hw : Cond.methodLinkNest M.1.cls idx M'.1 host ∈ tables_1) (hst : (st.map catv).sum ≤ 8) (k : ∀ v, o' = some v → SR l G Sh M (kk v) J pc' lv (st) v) : SR l G Sh M (o'.bind kk) J pc lv (a4 :: a3 :: a2 :: a1 :: a0 :: st) μ := fun b0 hb0 => by
  subst hp
  obtain ⟨v, hv, hkk⟩ := Option.bind_eq_some_iff.mp hb0
  exact ra_callSN (as := [a0, a1, a2, a3, a4]) (hs v hv) hd hg hi hf hw rfl hst (fun r μ' hq ho => by
  cases hq
  exact k _ hv b0 hkk)
