def ClsOK (ci : Nat) (C : String) (T : u_T) (N : Nat) (ty : Nat → FieldType) : Prop := vwCl[ci]? = some (C, T, N) ∧ (∀ w ∈ u_ws C T N, w ∈ TBL) ∧ (∀ k, k < N → parseFieldDescriptor (T k).2.2.1 = some (ty k)) ∧ (∀ a, a < N → ∀ b, b < N → a ≠ b → (T a).2.1 ≠ (T b).2.1) ∧ ∀ k, k < N → (T k).1 = C
def slotMV (μ : Mem) (a k code : Nat) : MV :=
  match code with
  | 0 => vI (μ a k)
  | 1 => vL (μ a k)
  | 2 => vI (μ a k)
  | j + 3 => vR j
theorem slotMV_rv {G : Nv} {μ : Mem} {a k code : Nat} : rv G (slotMV μ a k code) = slotV G (μ a) k code := by
  match code with
  | 0 => rfl
  | 1 => rfl
  | 2 => rfl
  | j + 3 => rfl
theorem slotMV_ok {Sh : Shp} {μ : Mem} {a k code : Nat} {e : She} (h : okMem Sh μ) (he : Sh[a]? = some e) (hs : e.2.2[k]? = some code) : okv (slotMV μ a k code) := by
  match code with
  | 0 => exact h.i he (by rw [hs]; simp)
  | 1 => exact h.l he hs
  | 2 => exact h.i he (by rw [hs]; simp)
  | j + 3 => trivial
theorem wsOf_obj {G : Nv} {Sh : Shp} {μ : Mem} {a ci : Nat} {slots : List Nat} (he : Sh[a]? = some (ci + 3, 0, slots)) : (wsOf G Sh μ)[a]? = some (G.2.1 a, .inr (ci, slots.mapIdx (slotV G (μ a)))) := wsOf_at he
theorem wsOf_arr {G : Nv} {Sh : Shp} {μ : Mem} {a n : Nat} (he : Sh[a]? = some (0, n, [])) : (wsOf G Sh μ)[a]? = some (G.2.1 a, .inl (G.2.2.1 0, n, .inl (fun i => Int32.ofInt (μ a i)))) := wsOf_at he
theorem wsOf_arrB {G : Nv} {Sh : Shp} {μ : Mem} {a n : Nat} (he : Sh[a]? = some (1, n, [])) : (wsOf G Sh μ)[a]? = some (G.2.1 a, .inl (G.2.2.1 1, n, .inl (fun i => Int32.ofInt (μ a i)))) := wsOf_at he
theorem wsOf_arrZ {G : Nv} {Sh : Shp} {μ : Mem} {a n : Nat} (he : Sh[a]? = some (2, n, [])) : (wsOf G Sh μ)[a]? = some (G.2.1 a, .inl (G.2.2.1 2, n, .inl (fun i => Int32.ofInt (μ a i)))) := wsOf_at he
theorem ra_get {l : Launch} {G : Nv} {Sh : Shp} {M : MD} {Q : Option MV → Mem → Prop} {pc pc' : Nat} {lv : List (Option MV)} {st : List MV} {μ : Mem} {ci idx k a code N : Nat} {C : String} {T : u_T} {ty : Nat → FieldType} {slots : List Nat} (hc : ClsOK ci C T N ty) (hd : decode M.2.1 pc = .ok (.getfield idx, 3)) (hp : pc + 3 = pc') (he : Sh[a]? = some (ci + 3, 0, slots)) (hs : slots[k]? = some code) (hk : k < N) (hw : Cond.fieldLink M.1.cls idx C (T k).2.1 (T k).2.2.1 ∈ TBL) (k : RA l G Sh M Q pc' lv (slotMV μ a k code :: st) μ) : RA l G Sh M Q pc lv (vR a :: st) μ := by
  subst hp
  rename_i k0
  refine ra_go (st' := slotMV μ a k0 code :: st) (fun hos hol hm => ?_) ?_ k
  · exact List.forall_mem_cons.mpr ⟨slotMV_ok hm he hs, fun v hv => hos v (List.mem_cons_of_mem _ hv)⟩
  · intro p e s m args below meth c H locs ls QQ X hP hS hl hm hol hos kk
    show W p l e (rmM M) s m args below meth c H locs 0 0 _ (F0 m pc ls (.ref (G.2.1 a) :: st.map (rv G)))
    refine va_get (D := G.1) (ci := ci) (v := slotV G (μ a) k0 code) (C := C) (T := T) (N := N) X.1 X.2.1 X.2.2.2.2.2.2.1 (fun w h => List.mem_cons_of_mem _ (hc.2.1 w h)) X.2.2.2.2.2.1 X.2.2.2.2.2.2.2.1 hP a (wsOf_obj he) hc.1 k0 hk (X.2.2.2.2.2.2.1 _ (List.mem_cons_of_mem _ hw)) (fun x hx => by rw [← hc.2.2.2.2 k0 hk]; exact hx) (by rw [List.getElem?_mapIdx, hs]; rfl) hd ?_
    rw [← slotMV_rv]
    exact kk
theorem ra_getI {l : Launch} {G : Nv} {Sh : Shp} {M : MD} {Q : Option MV → Mem → Prop} {pc pc' : Nat} {lv : List (Option MV)} {st : List MV} {μ : Mem} {ci idx k a N : Nat} {C : String} {T : u_T} {ty : Nat → FieldType} {slots : List Nat} (hc : ClsOK ci C T N ty) (hd : decode M.2.1 pc = .ok (.getfield idx, 3)) (hp : pc + 3 = pc') (he : Sh[a]? = some (ci + 3, 0, slots)) (hs : slots[k]? = some 0) (hk : k < N) (hw : Cond.fieldLink M.1.cls idx C (T k).2.1 (T k).2.2.1 ∈ TBL) (kk : RA l G Sh M Q pc' lv (vI (μ a k) :: st) μ) : RA l G Sh M Q pc lv (vR a :: st) μ := ra_get hc hd hp he hs hk hw kk
theorem ra_getZ {l : Launch} {G : Nv} {Sh : Shp} {M : MD} {Q : Option MV → Mem → Prop} {pc pc' : Nat} {lv : List (Option MV)} {st : List MV} {μ : Mem} {ci idx k a N : Nat} {C : String} {T : u_T} {ty : Nat → FieldType} {slots : List Nat} (hc : ClsOK ci C T N ty) (hd : decode M.2.1 pc = .ok (.getfield idx, 3)) (hp : pc + 3 = pc') (he : Sh[a]? = some (ci + 3, 0, slots)) (hs : slots[k]? = some 2) (hk : k < N) (hw : Cond.fieldLink M.1.cls idx C (T k).2.1 (T k).2.2.1 ∈ TBL) (kk : RA l G Sh M Q pc' lv (vI (μ a k) :: st) μ) : RA l G Sh M Q pc lv (vR a :: st) μ := ra_get hc hd hp he hs hk hw kk
theorem ra_getL {l : Launch} {G : Nv} {Sh : Shp} {M : MD} {Q : Option MV → Mem → Prop} {pc pc' : Nat} {lv : List (Option MV)} {st : List MV} {μ : Mem} {ci idx k a N : Nat} {C : String} {T : u_T} {ty : Nat → FieldType} {slots : List Nat} (hc : ClsOK ci C T N ty) (hd : decode M.2.1 pc = .ok (.getfield idx, 3)) (hp : pc + 3 = pc') (he : Sh[a]? = some (ci + 3, 0, slots)) (hs : slots[k]? = some 1) (hk : k < N) (hw : Cond.fieldLink M.1.cls idx C (T k).2.1 (T k).2.2.1 ∈ TBL) (kk : RA l G Sh M Q pc' lv (vL (μ a k) :: st) μ) : RA l G Sh M Q pc lv (vR a :: st) μ := ra_get hc hd hp he hs hk hw kk
theorem ra_getR {l : Launch} {G : Nv} {Sh : Shp} {M : MD} {Q : Option MV → Mem → Prop} {pc pc' : Nat} {lv : List (Option MV)} {st : List MV} {μ : Mem} {ci idx k a N b : Nat} {C : String} {T : u_T} {ty : Nat → FieldType} {slots : List Nat} (hc : ClsOK ci C T N ty) (hd : decode M.2.1 pc = .ok (.getfield idx, 3)) (hp : pc + 3 = pc') (he : Sh[a]? = some (ci + 3, 0, slots)) (hs : slots[k]? = some (b + 3)) (hk : k < N) (hw : Cond.fieldLink M.1.cls idx C (T k).2.1 (T k).2.2.1 ∈ TBL) (kk : RA l G Sh M Q pc' lv (vR b :: st) μ) : RA l G Sh M Q pc lv (vR a :: st) μ := ra_get hc hd hp he hs hk hw kk
theorem ra_putI {l : Launch} {G : Nv} {Sh : Shp} {M : MD} {Q : Option MV → Mem → Prop} {pc pc' : Nat} {lv : List (Option MV)} {st : List MV} {μ : Mem} {ci idx k a N : Nat} {x : Int} {C : String} {T : u_T} {ty : Nat → FieldType} {slots : List Nat} (hc : ClsOK ci C T N ty) (hd : decode M.2.1 pc = .ok (.putfield idx, 3)) (hp : pc + 3 = pc') (he : Sh[a]? = some (ci + 3, 0, slots)) (hs : slots[k]? = some 0) (hk : k < N) (hw : Cond.fieldLink M.1.cls idx C (T k).2.1 (T k).2.2.1 ∈ TBL) (hty : ty k = .int) (hfin : (T k).2.2.2 = false) (kk : RA l G Sh M Q pc' lv st (mset μ a k x)) : RA l G Sh M Q pc lv (vI x :: vR a :: st) μ := by
  subst hp
  intro p e s m args below meth c H locs ls X hP hD hS hl hn hm hol hos
  show W p l e (rmM M) s m args below meth c H locs 0 0 _ (F0 m pc ls (.int (Int32.ofInt x) :: .ref (G.2.1 a) :: st.map (rv G)))
  have hlen : k < slots.length := (List.getElem?_eq_some_iff.mp hs).1
  refine va_put (D := G.1) (ci := ci) (v := .int (Int32.ofInt x)) (ty := .int) (C := C) (T := T) (N := N) X.1 X.2.1 X.2.2.2.2.2.2.1 (fun w h => List.mem_cons_of_mem _ (hc.2.1 w h)) ty hc.2.2.1 hc.2.2.2.1 X.2.2.2.2.2.1 X.2.2.2.2.2.2.2.1 hP hD hS a (wsOf_obj he) hc.1 k hk (X.2.2.2.2.2.2.1 _ (List.mem_cons_of_mem _ hw)) (fun x hx => by rw [← hc.2.2.2.2 k hk]; exact hx) hfin (by rw [hc.2.2.1 k hk, hty]) rfl rfl (by simpa using hlen) hd (fun H1 locs1 hP1 hD1 hS1 => ?_)
  have hw1 : (wsOf G Sh μ).set a (G.2.1 a, .inr (ci, (slots.mapIdx (slotV G (μ a))).set k (.int (Int32.ofInt x)))) = wsOf G Sh (mset μ a k x) := by
    refine wsOf_set he ?_ (fun b hb => mset_off hb)
    show _ = Sum.inr (ci, slots.mapIdx (slotV G (mset μ a k x a)))
    congr 2
    apply List.ext_getElem?
    intro i
    by_cases hi : i = k
    · subst hi
      rw [List.getElem?_set_self (by simpa using hlen), List.getElem?_mapIdx, hs]
      simp [slotV, mset]
    · rw [List.getElem?_set_ne (Ne.symm hi), List.getElem?_mapIdx, List.getElem?_mapIdx]
      congr 1
      funext code
      simp only [slotV, mset, hi, and_false, if_false]
  rw [hw1] at hP1 hD1
  exact kk p e s m args below meth c H1 locs1 ls X hP1 hD1 hS1 hl hn (hm.set he (by rw [if_neg (by rw [hs]; simp)]; exact hos _ List.mem_cons_self)) hol (fun v hv => hos v (List.mem_cons_of_mem _ (List.mem_cons_of_mem _ hv)))
theorem ra_putL {l : Launch} {G : Nv} {Sh : Shp} {M : MD} {Q : Option MV → Mem → Prop} {pc pc' : Nat} {lv : List (Option MV)} {st : List MV} {μ : Mem} {ci idx k a N : Nat} {x : Int} {C : String} {T : u_T} {ty : Nat → FieldType} {slots : List Nat} (hc : ClsOK ci C T N ty) (hd : decode M.2.1 pc = .ok (.putfield idx, 3)) (hp : pc + 3 = pc') (he : Sh[a]? = some (ci + 3, 0, slots)) (hs : slots[k]? = some 1) (hk : k < N) (hw : Cond.fieldLink M.1.cls idx C (T k).2.1 (T k).2.2.1 ∈ TBL) (hty : ty k = .long) (hfin : (T k).2.2.2 = false) (kk : RA l G Sh M Q pc' lv st (mset μ a k x)) : RA l G Sh M Q pc lv (vL x :: vR a :: st) μ := by
  subst hp
  intro p e s m args below meth c H locs ls X hP hD hS hl hn hm hol hos
  show W p l e (rmM M) s m args below meth c H locs 0 0 _ (F0 m pc ls (.long (Int64.ofInt x) :: .ref (G.2.1 a) :: st.map (rv G)))
  have hlen : k < slots.length := (List.getElem?_eq_some_iff.mp hs).1
  refine va_put (D := G.1) (ci := ci) (v := .long (Int64.ofInt x)) (ty := .long) (C := C) (T := T) (N := N) X.1 X.2.1 X.2.2.2.2.2.2.1 (fun w h => List.mem_cons_of_mem _ (hc.2.1 w h)) ty hc.2.2.1 hc.2.2.2.1 X.2.2.2.2.2.1 X.2.2.2.2.2.2.2.1 hP hD hS a (wsOf_obj he) hc.1 k hk (X.2.2.2.2.2.2.1 _ (List.mem_cons_of_mem _ hw)) (fun x hx => by rw [← hc.2.2.2.2 k hk]; exact hx) hfin (by rw [hc.2.2.1 k hk, hty]) rfl rfl (by simpa using hlen) hd (fun H1 locs1 hP1 hD1 hS1 => ?_)
  have hw1 : (wsOf G Sh μ).set a (G.2.1 a, .inr (ci, (slots.mapIdx (slotV G (μ a))).set k (.long (Int64.ofInt x)))) = wsOf G Sh (mset μ a k x) := by
    refine wsOf_set he ?_ (fun b hb => mset_off hb)
    show _ = Sum.inr (ci, slots.mapIdx (slotV G (mset μ a k x a)))
    congr 2
    apply List.ext_getElem?
    intro i
    by_cases hi : i = k
    · subst hi
      rw [List.getElem?_set_self (by simpa using hlen), List.getElem?_mapIdx, hs]
      simp [slotV, mset]
    · rw [List.getElem?_set_ne (Ne.symm hi), List.getElem?_mapIdx, List.getElem?_mapIdx]
      congr 1
      funext code
      simp only [slotV, mset, hi, and_false, if_false]
  rw [hw1] at hP1 hD1
  exact kk p e s m args below meth c H1 locs1 ls X hP1 hD1 hS1 hl hn (hm.set he (by rw [if_pos hs]; exact hos _ List.mem_cons_self)) hol (fun v hv => hos v (List.mem_cons_of_mem _ (List.mem_cons_of_mem _ hv)))
theorem ra_putZ {l : Launch} {G : Nv} {Sh : Shp} {M : MD} {Q : Option MV → Mem → Prop} {pc pc' : Nat} {lv : List (Option MV)} {st : List MV} {μ : Mem} {ci idx k a N : Nat} {x : Int} {C : String} {T : u_T} {ty : Nat → FieldType} {slots : List Nat} (hc : ClsOK ci C T N ty) (hd : decode M.2.1 pc = .ok (.putfield idx, 3)) (hp : pc + 3 = pc') (he : Sh[a]? = some (ci + 3, 0, slots)) (hs : slots[k]? = some 2) (hk : k < N) (hw : Cond.fieldLink M.1.cls idx C (T k).2.1 (T k).2.2.1 ∈ TBL) (hty : ty k = .boolean) (hfin : (T k).2.2.2 = false) (hx : x = 0 ∨ x = 1) (kk : RA l G Sh M Q pc' lv st (mset μ a k x)) : RA l G Sh M Q pc lv (vI x :: vR a :: st) μ := by
  subst hp
  intro p e s m args below meth c H locs ls X hP hD hS hl hn hm hol hos
  show W p l e (rmM M) s m args below meth c H locs 0 0 _ (F0 m pc ls (.int (Int32.ofInt x) :: .ref (G.2.1 a) :: st.map (rv G)))
  have hlen : k < slots.length := (List.getElem?_eq_some_iff.mp hs).1
  refine va_put (D := G.1) (ci := ci) (v := .int (Int32.ofInt x)) (ty := .boolean) (C := C) (T := T) (N := N) X.1 X.2.1 X.2.2.2.2.2.2.1 (fun w h => List.mem_cons_of_mem _ (hc.2.1 w h)) ty hc.2.2.1 hc.2.2.2.1 X.2.2.2.2.2.1 X.2.2.2.2.2.2.2.1 hP hD hS a (wsOf_obj he) hc.1 k hk (X.2.2.2.2.2.2.1 _ (List.mem_cons_of_mem _ hw)) (fun x hx => by rw [← hc.2.2.2.2 k hk]; exact hx) hfin (by rw [hc.2.2.1 k hk, hty]) (by rcases hx with rfl | rfl <;> rfl) (by rcases hx with rfl | rfl <;> rfl) (by simpa using hlen) hd (fun H1 locs1 hP1 hD1 hS1 => ?_)
  have hw1 : (wsOf G Sh μ).set a (G.2.1 a, .inr (ci, (slots.mapIdx (slotV G (μ a))).set k (.int (Int32.ofInt x)))) = wsOf G Sh (mset μ a k x) := by
    refine wsOf_set he ?_ (fun b hb => mset_off hb)
    show _ = Sum.inr (ci, slots.mapIdx (slotV G (mset μ a k x a)))
    congr 2
    apply List.ext_getElem?
    intro i
    by_cases hi : i = k
    · subst hi
      rw [List.getElem?_set_self (by simpa using hlen), List.getElem?_mapIdx, hs]
      simp [slotV, mset]
    · rw [List.getElem?_set_ne (Ne.symm hi), List.getElem?_mapIdx, List.getElem?_mapIdx]
      congr 1
      funext code
      simp only [slotV, mset, hi, and_false, if_false]
  rw [hw1] at hP1 hD1
  exact kk p e s m args below meth c H1 locs1 ls X hP1 hD1 hS1 hl hn (hm.set he (by rw [if_neg (by rw [hs]; simp)]; exact hos _ List.mem_cons_self)) hol (fun v hv => hos v (List.mem_cons_of_mem _ (List.mem_cons_of_mem _ hv)))
theorem ra_getN {l : Launch} {G : Nv} {Sh : Shp} {M : MD} {Q : Option MV → Mem → Prop} {pc pc' : Nat} {lv : List (Option MV)} {st : List MV} {μ : Mem} {ci idx k a code N : Nat} {C : String} {T : u_T} {ty : Nat → FieldType} {slots : List Nat} {host : String} (hc : ClsOK ci C T N ty) (hd : decode M.2.1 pc = .ok (.getfield idx, 3)) (hp : pc + 3 = pc') (he : Sh[a]? = some (ci + 3, 0, slots)) (hs : slots[k]? = some code) (hk : k < N) (hw : Cond.fieldLinkNest M.1.cls idx C (T k).2.1 (T k).2.2.1 host ∈ tables_1) (k : RA l G Sh M Q pc' lv (slotMV μ a k code :: st) μ) : RA l G Sh M Q pc lv (vR a :: st) μ := by
  subst hp
  rename_i k0
  refine ra_go (st' := slotMV μ a k0 code :: st) (fun hos hol hm => ?_) ?_ k
  · exact List.forall_mem_cons.mpr ⟨slotMV_ok hm he hs, fun v hv => hos v (List.mem_cons_of_mem _ hv)⟩
  · intro p e s m args below meth c H locs ls QQ X hP hS hl hm hol hos kk
    show W p l e (rmM M) s m args below meth c H locs 0 0 _ (F0 m pc ls (.ref (G.2.1 a) :: st.map (rv G)))
    refine va_getN (D := G.1) (ci := ci) (v := slotV G (μ a) k0 code) (C := C) (T := T) (N := N) X.1 X.2.1 X.2.2.2.2.2.2.1 (fun w h => List.mem_cons_of_mem _ (hc.2.1 w h)) X.2.2.2.2.2.1 X.2.2.2.2.2.2.2.1 hP a (wsOf_obj he) hc.1 k0 hk (va_Nw.use rfl (X.2.2.2.2.2.2.2.2.1.1 _ hw rfl)) (fun x hx => by rw [← hc.2.2.2.2 k0 hk]; exact hx) (by rw [List.getElem?_mapIdx, hs]; rfl) hd ?_
    rw [← slotMV_rv]
    exact kk
theorem ra_getIN {l : Launch} {G : Nv} {Sh : Shp} {M : MD} {Q : Option MV → Mem → Prop} {pc pc' : Nat} {lv : List (Option MV)} {st : List MV} {μ : Mem} {ci idx k a N : Nat} {C : String} {T : u_T} {ty : Nat → FieldType} {slots : List Nat} {host : String} (hc : ClsOK ci C T N ty) (hd : decode M.2.1 pc = .ok (.getfield idx, 3)) (hp : pc + 3 = pc') (he : Sh[a]? = some (ci + 3, 0, slots)) (hs : slots[k]? = some 0) (hk : k < N) (hw : Cond.fieldLinkNest M.1.cls idx C (T k).2.1 (T k).2.2.1 host ∈ tables_1) (kk : RA l G Sh M Q pc' lv (vI (μ a k) :: st) μ) : RA l G Sh M Q pc lv (vR a :: st) μ := ra_getN hc hd hp he hs hk hw kk
theorem ra_getZN {l : Launch} {G : Nv} {Sh : Shp} {M : MD} {Q : Option MV → Mem → Prop} {pc pc' : Nat} {lv : List (Option MV)} {st : List MV} {μ : Mem} {ci idx k a N : Nat} {C : String} {T : u_T} {ty : Nat → FieldType} {slots : List Nat} {host : String} (hc : ClsOK ci C T N ty) (hd : decode M.2.1 pc = .ok (.getfield idx, 3)) (hp : pc + 3 = pc') (he : Sh[a]? = some (ci + 3, 0, slots)) (hs : slots[k]? = some 2) (hk : k < N) (hw : Cond.fieldLinkNest M.1.cls idx C (T k).2.1 (T k).2.2.1 host ∈ tables_1) (kk : RA l G Sh M Q pc' lv (vI (μ a k) :: st) μ) : RA l G Sh M Q pc lv (vR a :: st) μ := ra_getN hc hd hp he hs hk hw kk
theorem ra_getLN {l : Launch} {G : Nv} {Sh : Shp} {M : MD} {Q : Option MV → Mem → Prop} {pc pc' : Nat} {lv : List (Option MV)} {st : List MV} {μ : Mem} {ci idx k a N : Nat} {C : String} {T : u_T} {ty : Nat → FieldType} {slots : List Nat} {host : String} (hc : ClsOK ci C T N ty) (hd : decode M.2.1 pc = .ok (.getfield idx, 3)) (hp : pc + 3 = pc') (he : Sh[a]? = some (ci + 3, 0, slots)) (hs : slots[k]? = some 1) (hk : k < N) (hw : Cond.fieldLinkNest M.1.cls idx C (T k).2.1 (T k).2.2.1 host ∈ tables_1) (kk : RA l G Sh M Q pc' lv (vL (μ a k) :: st) μ) : RA l G Sh M Q pc lv (vR a :: st) μ := ra_getN hc hd hp he hs hk hw kk
theorem ra_getRN {l : Launch} {G : Nv} {Sh : Shp} {M : MD} {Q : Option MV → Mem → Prop} {pc pc' : Nat} {lv : List (Option MV)} {st : List MV} {μ : Mem} {ci idx k a N b : Nat} {C : String} {T : u_T} {ty : Nat → FieldType} {slots : List Nat} {host : String} (hc : ClsOK ci C T N ty) (hd : decode M.2.1 pc = .ok (.getfield idx, 3)) (hp : pc + 3 = pc') (he : Sh[a]? = some (ci + 3, 0, slots)) (hs : slots[k]? = some (b + 3)) (hk : k < N) (hw : Cond.fieldLinkNest M.1.cls idx C (T k).2.1 (T k).2.2.1 host ∈ tables_1) (kk : RA l G Sh M Q pc' lv (vR b :: st) μ) : RA l G Sh M Q pc lv (vR a :: st) μ := ra_getN hc hd hp he hs hk hw kk
theorem ra_putIN {l : Launch} {G : Nv} {Sh : Shp} {M : MD} {Q : Option MV → Mem → Prop} {pc pc' : Nat} {lv : List (Option MV)} {st : List MV} {μ : Mem} {ci idx k a N : Nat} {x : Int} {C : String} {T : u_T} {ty : Nat → FieldType} {slots : List Nat} {host : String} (hc : ClsOK ci C T N ty) (hd : decode M.2.1 pc = .ok (.putfield idx, 3)) (hp : pc + 3 = pc') (he : Sh[a]? = some (ci + 3, 0, slots)) (hs : slots[k]? = some 0) (hk : k < N) (hw : Cond.fieldLinkNest M.1.cls idx C (T k).2.1 (T k).2.2.1 host ∈ tables_1) (hty : ty k = .int) (hfin : (T k).2.2.2 = false) (kk : RA l G Sh M Q pc' lv st (mset μ a k x)) : RA l G Sh M Q pc lv (vI x :: vR a :: st) μ := by
  subst hp
  intro p e s m args below meth c H locs ls X hP hD hS hl hn hm hol hos
  show W p l e (rmM M) s m args below meth c H locs 0 0 _ (F0 m pc ls (.int (Int32.ofInt x) :: .ref (G.2.1 a) :: st.map (rv G)))
  have hlen : k < slots.length := (List.getElem?_eq_some_iff.mp hs).1
  refine va_putN (D := G.1) (ci := ci) (v := .int (Int32.ofInt x)) (ty := .int) (C := C) (T := T) (N := N) X.1 X.2.1 X.2.2.2.2.2.2.1 (fun w h => List.mem_cons_of_mem _ (hc.2.1 w h)) ty hc.2.2.1 hc.2.2.2.1 X.2.2.2.2.2.1 X.2.2.2.2.2.2.2.1 hP hD hS a (wsOf_obj he) hc.1 k hk (va_Nw.use rfl (X.2.2.2.2.2.2.2.2.1.1 _ hw rfl)) (fun x hx => by rw [← hc.2.2.2.2 k hk]; exact hx) hfin (by rw [hc.2.2.1 k hk, hty]) rfl rfl (by simpa using hlen) hd (fun H1 locs1 hP1 hD1 hS1 => ?_)
  have hw1 : (wsOf G Sh μ).set a (G.2.1 a, .inr (ci, (slots.mapIdx (slotV G (μ a))).set k (.int (Int32.ofInt x)))) = wsOf G Sh (mset μ a k x) := by
    refine wsOf_set he ?_ (fun b hb => mset_off hb)
    show _ = Sum.inr (ci, slots.mapIdx (slotV G (mset μ a k x a)))
    congr 2
    apply List.ext_getElem?
    intro i
    by_cases hi : i = k
    · subst hi
      rw [List.getElem?_set_self (by simpa using hlen), List.getElem?_mapIdx, hs]
      simp [slotV, mset]
    · rw [List.getElem?_set_ne (Ne.symm hi), List.getElem?_mapIdx, List.getElem?_mapIdx]
      congr 1
      funext code
      simp only [slotV, mset, hi, and_false, if_false]
  rw [hw1] at hP1 hD1
  exact kk p e s m args below meth c H1 locs1 ls X hP1 hD1 hS1 hl hn (hm.set he (by rw [if_neg (by rw [hs]; simp)]; exact hos _ List.mem_cons_self)) hol (fun v hv => hos v (List.mem_cons_of_mem _ (List.mem_cons_of_mem _ hv)))
theorem ra_putLN {l : Launch} {G : Nv} {Sh : Shp} {M : MD} {Q : Option MV → Mem → Prop} {pc pc' : Nat} {lv : List (Option MV)} {st : List MV} {μ : Mem} {ci idx k a N : Nat} {x : Int} {C : String} {T : u_T} {ty : Nat → FieldType} {slots : List Nat} {host : String} (hc : ClsOK ci C T N ty) (hd : decode M.2.1 pc = .ok (.putfield idx, 3)) (hp : pc + 3 = pc') (he : Sh[a]? = some (ci + 3, 0, slots)) (hs : slots[k]? = some 1) (hk : k < N) (hw : Cond.fieldLinkNest M.1.cls idx C (T k).2.1 (T k).2.2.1 host ∈ tables_1) (hty : ty k = .long) (hfin : (T k).2.2.2 = false) (kk : RA l G Sh M Q pc' lv st (mset μ a k x)) : RA l G Sh M Q pc lv (vL x :: vR a :: st) μ := by
  subst hp
  intro p e s m args below meth c H locs ls X hP hD hS hl hn hm hol hos
  show W p l e (rmM M) s m args below meth c H locs 0 0 _ (F0 m pc ls (.long (Int64.ofInt x) :: .ref (G.2.1 a) :: st.map (rv G)))
  have hlen : k < slots.length := (List.getElem?_eq_some_iff.mp hs).1
  refine va_putN (D := G.1) (ci := ci) (v := .long (Int64.ofInt x)) (ty := .long) (C := C) (T := T) (N := N) X.1 X.2.1 X.2.2.2.2.2.2.1 (fun w h => List.mem_cons_of_mem _ (hc.2.1 w h)) ty hc.2.2.1 hc.2.2.2.1 X.2.2.2.2.2.1 X.2.2.2.2.2.2.2.1 hP hD hS a (wsOf_obj he) hc.1 k hk (va_Nw.use rfl (X.2.2.2.2.2.2.2.2.1.1 _ hw rfl)) (fun x hx => by rw [← hc.2.2.2.2 k hk]; exact hx) hfin (by rw [hc.2.2.1 k hk, hty]) rfl rfl (by simpa using hlen) hd (fun H1 locs1 hP1 hD1 hS1 => ?_)
  have hw1 : (wsOf G Sh μ).set a (G.2.1 a, .inr (ci, (slots.mapIdx (slotV G (μ a))).set k (.long (Int64.ofInt x)))) = wsOf G Sh (mset μ a k x) := by
    refine wsOf_set he ?_ (fun b hb => mset_off hb)
    show _ = Sum.inr (ci, slots.mapIdx (slotV G (mset μ a k x a)))
    congr 2
    apply List.ext_getElem?
    intro i
    by_cases hi : i = k
    · subst hi
      rw [List.getElem?_set_self (by simpa using hlen), List.getElem?_mapIdx, hs]
      simp [slotV, mset]
    · rw [List.getElem?_set_ne (Ne.symm hi), List.getElem?_mapIdx, List.getElem?_mapIdx]
      congr 1
      funext code
      simp only [slotV, mset, hi, and_false, if_false]
  rw [hw1] at hP1 hD1
  exact kk p e s m args below meth c H1 locs1 ls X hP1 hD1 hS1 hl hn (hm.set he (by rw [if_pos hs]; exact hos _ List.mem_cons_self)) hol (fun v hv => hos v (List.mem_cons_of_mem _ (List.mem_cons_of_mem _ hv)))
theorem ra_putZN {l : Launch} {G : Nv} {Sh : Shp} {M : MD} {Q : Option MV → Mem → Prop} {pc pc' : Nat} {lv : List (Option MV)} {st : List MV} {μ : Mem} {ci idx k a N : Nat} {x : Int} {C : String} {T : u_T} {ty : Nat → FieldType} {slots : List Nat} {host : String} (hc : ClsOK ci C T N ty) (hd : decode M.2.1 pc = .ok (.putfield idx, 3)) (hp : pc + 3 = pc') (he : Sh[a]? = some (ci + 3, 0, slots)) (hs : slots[k]? = some 2) (hk : k < N) (hw : Cond.fieldLinkNest M.1.cls idx C (T k).2.1 (T k).2.2.1 host ∈ tables_1) (hty : ty k = .boolean) (hfin : (T k).2.2.2 = false) (hx : x = 0 ∨ x = 1) (kk : RA l G Sh M Q pc' lv st (mset μ a k x)) : RA l G Sh M Q pc lv (vI x :: vR a :: st) μ := by
  subst hp
  intro p e s m args below meth c H locs ls X hP hD hS hl hn hm hol hos
  show W p l e (rmM M) s m args below meth c H locs 0 0 _ (F0 m pc ls (.int (Int32.ofInt x) :: .ref (G.2.1 a) :: st.map (rv G)))
  have hlen : k < slots.length := (List.getElem?_eq_some_iff.mp hs).1
  refine va_putN (D := G.1) (ci := ci) (v := .int (Int32.ofInt x)) (ty := .boolean) (C := C) (T := T) (N := N) X.1 X.2.1 X.2.2.2.2.2.2.1 (fun w h => List.mem_cons_of_mem _ (hc.2.1 w h)) ty hc.2.2.1 hc.2.2.2.1 X.2.2.2.2.2.1 X.2.2.2.2.2.2.2.1 hP hD hS a (wsOf_obj he) hc.1 k hk (va_Nw.use rfl (X.2.2.2.2.2.2.2.2.1.1 _ hw rfl)) (fun x hx => by rw [← hc.2.2.2.2 k hk]; exact hx) hfin (by rw [hc.2.2.1 k hk, hty]) (by rcases hx with rfl | rfl <;> rfl) (by rcases hx with rfl | rfl <;> rfl) (by simpa using hlen) hd (fun H1 locs1 hP1 hD1 hS1 => ?_)
  have hw1 : (wsOf G Sh μ).set a (G.2.1 a, .inr (ci, (slots.mapIdx (slotV G (μ a))).set k (.int (Int32.ofInt x)))) = wsOf G Sh (mset μ a k x) := by
    refine wsOf_set he ?_ (fun b hb => mset_off hb)
    show _ = Sum.inr (ci, slots.mapIdx (slotV G (mset μ a k x a)))
    congr 2
    apply List.ext_getElem?
    intro i
    by_cases hi : i = k
    · subst hi
      rw [List.getElem?_set_self (by simpa using hlen), List.getElem?_mapIdx, hs]
      simp [slotV, mset]
    · rw [List.getElem?_set_ne (Ne.symm hi), List.getElem?_mapIdx, List.getElem?_mapIdx]
      congr 1
      funext code
      simp only [slotV, mset, hi, and_false, if_false]
  rw [hw1] at hP1 hD1
  exact kk p e s m args below meth c H1 locs1 ls X hP1 hD1 hS1 hl hn (hm.set he (by rw [if_neg (by rw [hs]; simp)]; exact hos _ List.mem_cons_self)) hol (fun v hv => hos v (List.mem_cons_of_mem _ (List.mem_cons_of_mem _ hv)))
theorem idx_nat {i : Int} {n : Nat} (h0 : 0 ≤ i) (h1 : i < n) (hn : n < 2147483648) : (Int32.ofInt i).toNatClampNeg = i.toNat := by
  have hc : C32 i := ⟨by omega, by omega⟩
  show (Int32.ofInt i).toInt.toNat = i.toNat
  rw [i32_toInt hc]
theorem idx_in {i : Int} {n : Nat} (h0 : 0 ≤ i) (h1 : i < n) (hn : n < 2147483648) : vp_in (Int32.ofInt i) n := by
  have hc : C32 i := ⟨by omega, by omega⟩
  rw [vp_in_iff, i32_toInt hc]
  exact ⟨h0, h1⟩
def zN (x : Int) : Int := (vp_nar .boolean (Int32.ofInt x)).toInt
def bN (x : Int) : Int := (vp_nar .byte (Int32.ofInt x)).toInt
theorem ra_iald {l : Launch} {G : Nv} {Sh : Shp} {M : MD} {Q : Option MV → Mem → Prop} {pc pc' : Nat} {lv : List (Option MV)} {st : List MV} {μ : Mem} {a n : Nat} {i : Int} (hd : decode M.2.1 pc = .ok (.iaload, 1)) (hp : pc + 1 = pc') (he : Sh[a]? = some (0, n, [])) (hn : n < 2147483648) (h0 : 0 ≤ i) (h1 : i < n) (k : RA l G Sh M Q pc' lv (vI (μ a i.toNat) :: st) μ) : RA l G Sh M Q pc lv (vI i :: vR a :: st) μ := by
  subst hp
  refine ra_go (st' := vI (μ a i.toNat) :: st) (fun hos hol hm => ?_) ?_ k
  · exact List.forall_mem_cons.mpr ⟨hm.i he (by simp), fun v hv => hos v (List.mem_cons_of_mem _ (List.mem_cons_of_mem _ hv))⟩
  · intro p e s m args below meth c H locs ls QQ X hP hS hl hm hol hos kk
    show W p l e (rmM M) s m args below meth c H locs 0 0 _ (F0 m pc ls (.int (Int32.ofInt i) :: .ref (G.2.1 a) :: st.map (rv G)))
    refine va_iald X.1 X.2.1 X.2.2.2.2.2.2.2.1 hP a 0 (wsOf_arr he) rfl (idx_in h0 h1 hn) hd ?_
    rw [idx_nat h0 h1 hn]
    exact kk
theorem ra_bald {l : Launch} {G : Nv} {Sh : Shp} {M : MD} {Q : Option MV → Mem → Prop} {pc pc' : Nat} {lv : List (Option MV)} {st : List MV} {μ : Mem} {a n : Nat} {i : Int} (hd : decode M.2.1 pc = .ok (.baload, 1)) (hp : pc + 1 = pc') (he : Sh[a]? = some (1, n, [])) (hn : n < 2147483648) (h0 : 0 ≤ i) (h1 : i < n) (k : RA l G Sh M Q pc' lv (vI (μ a i.toNat) :: st) μ) : RA l G Sh M Q pc lv (vI i :: vR a :: st) μ := by
  subst hp
  refine ra_go (st' := vI (μ a i.toNat) :: st) (fun hos hol hm => ?_) ?_ k
  · exact List.forall_mem_cons.mpr ⟨hm.i he (by simp), fun v hv => hos v (List.mem_cons_of_mem _ (List.mem_cons_of_mem _ hv))⟩
  · intro p e s m args below meth c H locs ls QQ X hP hS hl hm hol hos kk
    show W p l e (rmM M) s m args below meth c H locs 0 0 _ (F0 m pc ls (.int (Int32.ofInt i) :: .ref (G.2.1 a) :: st.map (rv G)))
    refine va_bald X.1 X.2.1 X.2.2.2.2.2.2.2.1 hP a 1 (wsOf_arrB he) rfl (idx_in h0 h1 hn) hd ?_
    rw [idx_nat h0 h1 hn]
    exact kk
theorem ra_zald {l : Launch} {G : Nv} {Sh : Shp} {M : MD} {Q : Option MV → Mem → Prop} {pc pc' : Nat} {lv : List (Option MV)} {st : List MV} {μ : Mem} {a n : Nat} {i : Int} (hd : decode M.2.1 pc = .ok (.baload, 1)) (hp : pc + 1 = pc') (he : Sh[a]? = some (2, n, [])) (hn : n < 2147483648) (h0 : 0 ≤ i) (h1 : i < n) (k : RA l G Sh M Q pc' lv (vI (μ a i.toNat) :: st) μ) : RA l G Sh M Q pc lv (vI i :: vR a :: st) μ := by
  subst hp
  refine ra_go (st' := vI (μ a i.toNat) :: st) (fun hos hol hm => ?_) ?_ k
  · exact List.forall_mem_cons.mpr ⟨hm.i he (by simp), fun v hv => hos v (List.mem_cons_of_mem _ (List.mem_cons_of_mem _ hv))⟩
  · intro p e s m args below meth c H locs ls QQ X hP hS hl hm hol hos kk
    show W p l e (rmM M) s m args below meth c H locs 0 0 _ (F0 m pc ls (.int (Int32.ofInt i) :: .ref (G.2.1 a) :: st.map (rv G)))
    refine va_zald X.1 X.2.1 X.2.2.2.2.2.2.2.1 hP a 2 (wsOf_arrZ he) rfl (idx_in h0 h1 hn) hd ?_
    rw [idx_nat h0 h1 hn]
    exact kk
theorem ra_iast {l : Launch} {G : Nv} {Sh : Shp} {M : MD} {Q : Option MV → Mem → Prop} {pc pc' : Nat} {lv : List (Option MV)} {st : List MV} {μ : Mem} {a n : Nat} {i x : Int} (hd : decode M.2.1 pc = .ok (.iastore, 1)) (hp : pc + 1 = pc') (he : Sh[a]? = some (0, n, [])) (hn : n < 2147483648) (h0 : 0 ≤ i) (h1 : i < n) (k : RA l G Sh M Q pc' lv st (mset μ a i.toNat (x))) : RA l G Sh M Q pc lv (vI x :: vI i :: vR a :: st) μ := by
  subst hp
  intro p e s m args below meth c H locs ls X hP hD hS hl hnn hm hol hos
  show W p l e (rmM M) s m args below meth c H locs 0 0 _ (F0 m pc ls (.int (Int32.ofInt x) :: .int (Int32.ofInt i) :: .ref (G.2.1 a) :: st.map (rv G)))
  refine va_iast X.1 X.2.1 X.2.2.2.2.2.2.2.1 hP hD hS a 0 (wsOf_arr he) rfl (idx_in h0 h1 hn) hd (fun H1 locs1 hP1 hD1 hS1 => ?_)
  rw [idx_nat h0 h1 hn] at hP1 hD1
  rw [wsOf_set (μ' := mset μ a i.toNat (x)) he (by
    show _ = Sum.inl (G.2.2.1 0, n, Sum.inl (fun j => Int32.ofInt (mset μ a i.toNat (x) a j)))
    refine congrArg (fun f => (Sum.inl (G.2.2.1 0, n, Sum.inl f) : va_E)) (funext fun j => ?_)
    by_cases hj : j = i.toNat
    · subst hj
      simp [upd, mset]
    · simp [upd, mset, hj]) (fun b hb => mset_off hb)] at hP1 hD1
  exact k p e s m args below meth c H1 locs1 ls X hP1 hD1 hS1 hl hnn (hm.set he (by rw [if_neg (by simp)]; exact hos _ List.mem_cons_self)) hol (fun v hv => hos v (List.mem_cons_of_mem _ (List.mem_cons_of_mem _ (List.mem_cons_of_mem _ hv))))
theorem ra_bast {l : Launch} {G : Nv} {Sh : Shp} {M : MD} {Q : Option MV → Mem → Prop} {pc pc' : Nat} {lv : List (Option MV)} {st : List MV} {μ : Mem} {a n : Nat} {i x : Int} (hd : decode M.2.1 pc = .ok (.bastore, 1)) (hp : pc + 1 = pc') (he : Sh[a]? = some (1, n, [])) (hn : n < 2147483648) (h0 : 0 ≤ i) (h1 : i < n) (k : RA l G Sh M Q pc' lv st (mset μ a i.toNat (bN x))) : RA l G Sh M Q pc lv (vI x :: vI i :: vR a :: st) μ := by
  subst hp
  intro p e s m args below meth c H locs ls X hP hD hS hl hnn hm hol hos
  show W p l e (rmM M) s m args below meth c H locs 0 0 _ (F0 m pc ls (.int (Int32.ofInt x) :: .int (Int32.ofInt i) :: .ref (G.2.1 a) :: st.map (rv G)))
  refine va_bast X.1 X.2.1 X.2.2.2.2.2.2.2.1 hP hD hS a 1 (wsOf_arrB he) rfl (idx_in h0 h1 hn) hd (fun H1 locs1 hP1 hD1 hS1 => ?_)
  rw [idx_nat h0 h1 hn] at hP1 hD1
  rw [wsOf_set (μ' := mset μ a i.toNat (bN x)) he (by
    show _ = Sum.inl (G.2.2.1 1, n, Sum.inl (fun j => Int32.ofInt (mset μ a i.toNat (bN x) a j)))
    refine congrArg (fun f => (Sum.inl (G.2.2.1 1, n, Sum.inl f) : va_E)) (funext fun j => ?_)
    by_cases hj : j = i.toNat
    · subst hj
      simp [upd, mset, bN, Int32.ofInt_toInt]
    · simp [upd, mset, hj]) (fun b hb => mset_off hb)] at hP1 hD1
  exact k p e s m args below meth c H1 locs1 ls X hP1 hD1 hS1 hl hnn (hm.set he (by rw [if_neg (by simp)]; exact i32_C _)) hol (fun v hv => hos v (List.mem_cons_of_mem _ (List.mem_cons_of_mem _ (List.mem_cons_of_mem _ hv))))
theorem ra_zast {l : Launch} {G : Nv} {Sh : Shp} {M : MD} {Q : Option MV → Mem → Prop} {pc pc' : Nat} {lv : List (Option MV)} {st : List MV} {μ : Mem} {a n : Nat} {i x : Int} (hd : decode M.2.1 pc = .ok (.bastore, 1)) (hp : pc + 1 = pc') (he : Sh[a]? = some (2, n, [])) (hn : n < 2147483648) (h0 : 0 ≤ i) (h1 : i < n) (k : RA l G Sh M Q pc' lv st (mset μ a i.toNat (zN x))) : RA l G Sh M Q pc lv (vI x :: vI i :: vR a :: st) μ := by
  subst hp
  intro p e s m args below meth c H locs ls X hP hD hS hl hnn hm hol hos
  show W p l e (rmM M) s m args below meth c H locs 0 0 _ (F0 m pc ls (.int (Int32.ofInt x) :: .int (Int32.ofInt i) :: .ref (G.2.1 a) :: st.map (rv G)))
  refine va_zast X.1 X.2.1 X.2.2.2.2.2.2.2.1 hP hD hS a 2 (wsOf_arrZ he) rfl (idx_in h0 h1 hn) hd (fun H1 locs1 hP1 hD1 hS1 => ?_)
  rw [idx_nat h0 h1 hn] at hP1 hD1
  rw [wsOf_set (μ' := mset μ a i.toNat (zN x)) he (by
    show _ = Sum.inl (G.2.2.1 2, n, Sum.inl (fun j => Int32.ofInt (mset μ a i.toNat (zN x) a j)))
    refine congrArg (fun f => (Sum.inl (G.2.2.1 2, n, Sum.inl f) : va_E)) (funext fun j => ?_)
    by_cases hj : j = i.toNat
    · subst hj
      simp [upd, mset, zN, Int32.ofInt_toInt]
    · simp [upd, mset, hj]) (fun b hb => mset_off hb)] at hP1 hD1
  exact k p e s m args below meth c H1 locs1 ls X hP1 hD1 hS1 hl hnn (hm.set he (by rw [if_neg (by simp)]; exact i32_C _)) hol (fun v hv => hos v (List.mem_cons_of_mem _ (List.mem_cons_of_mem _ (List.mem_cons_of_mem _ hv))))
theorem ra_alen0 {l : Launch} {G : Nv} {Sh : Shp} {M : MD} {Q : Option MV → Mem → Prop} {pc pc' : Nat} {lv : List (Option MV)} {st : List MV} {μ : Mem} {a n : Nat} (hd : decode M.2.1 pc = .ok (.arraylength, 1)) (hp : pc + 1 = pc') (he : Sh[a]? = some (0, n, [])) (hn : n < 2147483648) (k : RA l G Sh M Q pc' lv (vI (n : Int) :: st) μ) : RA l G Sh M Q pc lv (vR a :: st) μ := by
  subst hp
  refine ra_go (st' := vI (n : Int) :: st) (fun hos hol hm => ?_) ?_ k
  · exact List.forall_mem_cons.mpr ⟨⟨by omega, by omega⟩, fun v hv => hos v (List.mem_cons_of_mem _ hv)⟩
  · intro p e s m args below meth c H locs ls QQ X hP hS hl hm hol hos kk
    show W p l e (rmM M) s m args below meth c H locs 0 0 _ (F0 m pc ls (.ref (G.2.1 a) :: st.map (rv G)))
    exact va_alen X.1 X.2.1 X.2.2.2.2.2.2.2.1 hP a 0 (wsOf_arr he) rfl (Int32.ofInt_eq_ofNat (n := n)).symm hd kk
theorem ra_alen1 {l : Launch} {G : Nv} {Sh : Shp} {M : MD} {Q : Option MV → Mem → Prop} {pc pc' : Nat} {lv : List (Option MV)} {st : List MV} {μ : Mem} {a n : Nat} (hd : decode M.2.1 pc = .ok (.arraylength, 1)) (hp : pc + 1 = pc') (he : Sh[a]? = some (1, n, [])) (hn : n < 2147483648) (k : RA l G Sh M Q pc' lv (vI (n : Int) :: st) μ) : RA l G Sh M Q pc lv (vR a :: st) μ := by
  subst hp
  refine ra_go (st' := vI (n : Int) :: st) (fun hos hol hm => ?_) ?_ k
  · exact List.forall_mem_cons.mpr ⟨⟨by omega, by omega⟩, fun v hv => hos v (List.mem_cons_of_mem _ hv)⟩
  · intro p e s m args below meth c H locs ls QQ X hP hS hl hm hol hos kk
    show W p l e (rmM M) s m args below meth c H locs 0 0 _ (F0 m pc ls (.ref (G.2.1 a) :: st.map (rv G)))
    exact va_alen X.1 X.2.1 X.2.2.2.2.2.2.2.1 hP a 1 (wsOf_arrB he) rfl (Int32.ofInt_eq_ofNat (n := n)).symm hd kk
theorem ra_alen2 {l : Launch} {G : Nv} {Sh : Shp} {M : MD} {Q : Option MV → Mem → Prop} {pc pc' : Nat} {lv : List (Option MV)} {st : List MV} {μ : Mem} {a n : Nat} (hd : decode M.2.1 pc = .ok (.arraylength, 1)) (hp : pc + 1 = pc') (he : Sh[a]? = some (2, n, [])) (hn : n < 2147483648) (k : RA l G Sh M Q pc' lv (vI (n : Int) :: st) μ) : RA l G Sh M Q pc lv (vR a :: st) μ := by
  subst hp
  refine ra_go (st' := vI (n : Int) :: st) (fun hos hol hm => ?_) ?_ k
  · exact List.forall_mem_cons.mpr ⟨⟨by omega, by omega⟩, fun v hv => hos v (List.mem_cons_of_mem _ hv)⟩
  · intro p e s m args below meth c H locs ls QQ X hP hS hl hm hol hos kk
    show W p l e (rmM M) s m args below meth c H locs 0 0 _ (F0 m pc ls (.ref (G.2.1 a) :: st.map (rv G)))
    exact va_alen X.1 X.2.1 X.2.2.2.2.2.2.2.1 hP a 2 (wsOf_arrZ he) rfl (Int32.ofInt_eq_ofNat (n := n)).symm hd kk
theorem ra_ret {l : Launch} {G : Nv} {Sh : Shp} {M : MD} {Q : Option MV → Mem → Prop} {pc : Nat} {lv : List (Option MV)} {μ : Mem} (hd : decode M.2.1 pc = .ok (.return_, 1)) (hr : M.2.2.2.1 = none) (hQ : Q none μ) : RA l G Sh M Q pc lv [] μ := by
  intro p e s m args below meth c H locs ls X hP hD hS hl hn hm hol hos
  have hlocks := X.2.2.2.2.1
  exact W.vret X.1 X.2.1 (X.2.2.2.1.trans hr) (fun t ht hW => ⟨⟨none, μ, rfl, hQ, trivial, hm, by rw [ht]; exact hP, va_K.moved hW.alike X.2.2.2.2.2.2.2.1, hD⟩, hS.F ht⟩) hS.2.2 hd
theorem ra_iret {l : Launch} {G : Nv} {Sh : Shp} {M : MD} {Q : Option MV → Mem → Prop} {pc : Nat} {lv : List (Option MV)} {μ : Mem} {x : Int} {ty : FieldType} (hd : decode M.2.1 pc = .ok (.ireturn, 1)) (hr : M.2.2.2.1 = some ty) (hny : narrow ty (.int (Int32.ofInt x)) = .int (Int32.ofInt x)) (hz : ty = .boolean → x = 0 ∨ x = 1) (hQ : Q (some (vI x)) μ) : RA l G Sh M Q pc lv [vI x] μ := by
  intro p e s m args below meth c H locs ls X hP hD hS hl hn hm hol hos
  have hlocks := X.2.2.2.2.1
  exact W.zret (v := Int32.ofInt x) X.1 X.2.1 (X.2.2.2.1.trans hr) hny (fun t ht hW => ⟨⟨some (vI x), μ, rfl, hQ, ⟨hos _ List.mem_cons_self, fun h => ⟨x, rfl, hz (by rw [hr] at h; cases h; rfl)⟩⟩, hm, by rw [ht]; exact hP, va_K.moved hW.alike X.2.2.2.2.2.2.2.1, hD⟩, hS.F ht⟩) hS.2.2 hd
theorem ra_lret {l : Launch} {G : Nv} {Sh : Shp} {M : MD} {Q : Option MV → Mem → Prop} {pc : Nat} {lv : List (Option MV)} {μ : Mem} {x : Int} (hd : decode M.2.1 pc = .ok (.lreturn, 1)) (hr : M.2.2.2.1 = some .long) (hQ : Q (some (vL x)) μ) : RA l G Sh M Q pc lv [vL x] μ := by
  intro p e s m args below meth c H locs ls X hP hD hS hl hn hm hol hos
  have hlocks := X.2.2.2.2.1
  exact W.lret (v := Int64.ofInt x) X.1 X.2.1 (X.2.2.2.1.trans hr) (fun t ht hW => ⟨⟨some (vL x), μ, rfl, hQ, ⟨hos _ List.mem_cons_self, fun h => by rw [hr] at h; cases h⟩, hm, by rw [ht]; exact hP, va_K.moved hW.alike X.2.2.2.2.2.2.2.1, hD⟩, hS.F ht⟩) hS.2.2 hd
theorem ra_aret {l : Launch} {G : Nv} {Sh : Shp} {M : MD} {Q : Option MV → Mem → Prop} {pc : Nat} {lv : List (Option MV)} {μ : Mem} {x : Nat} {C : String} (hd : decode M.2.1 pc = .ok (.areturn, 1)) (hr : M.2.2.2.1 = some (.object C)) (hQ : Q (some (vR x)) μ) : RA l G Sh M Q pc lv [vR x] μ := by
  intro p e s m args below meth c H locs ls X hP hD hS hl hn hm hol hos
  have hlocks := X.2.2.2.2.1
  exact W.aret (v := .ref (G.2.1 x)) X.1 X.2.1 (X.2.2.2.1.trans hr) (Or.inl ⟨_, rfl⟩) (Or.inr ⟨_, rfl⟩) (fun t ht hW => ⟨⟨some (vR x), μ, rfl, hQ, ⟨trivial, fun h => by rw [hr] at h; cases h⟩, hm, by rw [ht]; exact hP, va_K.moved hW.alike X.2.2.2.2.2.2.2.1, hD⟩, hS.F ht⟩) hS.2.2 hd
