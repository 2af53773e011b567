def killL (lv : List (Option MV)) (i : Nat) : List (Option MV) :=
  match i with
  | 0 => lv
  | j + 1 => match lv[j]? with
    | some (some (.inr (.inl _))) => lv.set j none
    | _ => lv
def lvset1 (lv : List (Option MV)) (i : Nat) (v : MV) : List (Option MV) := (killL lv i).set i (some v)
def lvset2 (lv : List (Option MV)) (i : Nat) (v : MV) : List (Option MV) := ((killL lv i).set i (some v)).set (i + 1) none
theorem killL_at {lv : List (Option MV)} {i j : Nat} {w : MV} (h : (killL lv i)[j]? = some (some w)) : lv[j]? = some (some w) ∧ ¬ (j + 1 = i ∧ catv w = 2) := by
  unfold killL at h
  cases i with
  | zero => exact ⟨h, fun q => by omega⟩
  | succ k =>
    simp only at h
    split at h
    · rename_i x hx
      by_cases hj : j = k
      · subst hj
        rw [List.getElem?_set_self (List.getElem?_eq_some_iff.mp hx).1] at h
        cases h
      · rw [List.getElem?_set_ne (Ne.symm hj)] at h
        exact ⟨h, fun q => hj (by omega)⟩
    · rename_i hx
      refine ⟨h, fun q => ?_⟩
      have hj : j = k := by omega
      subst hj
      rcases w with x | x | x
      · exact absurd q.2 (by simp [catv])
      · exact hx x h
      · exact absurd q.2 (by simp [catv])
theorem killL_len (lv : List (Option MV)) (i : Nat) : (killL lv i).length = lv.length := by
  unfold killL
  split
  · rfl
  · split <;> simp
theorem lvset1_len (lv : List (Option MV)) (i : Nat) (v : MV) : (lvset1 lv i v).length = lv.length := by simp [lvset1, killL_len]
theorem lvset2_len (lv : List (Option MV)) (i : Nat) (v : MV) : (lvset2 lv i v).length = lv.length := by simp [lvset2, killL_len]
theorem lvset1_at {lv : List (Option MV)} {i j : Nat} {v w : MV} (h : (lvset1 lv i v)[j]? = some (some w)) : (j = i ∧ w = v) ∨ (j ≠ i ∧ lv[j]? = some (some w) ∧ ¬ (j + 1 = i ∧ catv w = 2)) := by
  unfold lvset1 at h
  by_cases hj : j = i
  · subst hj
    have hl : j < (killL lv j).length := by
      have := (List.getElem?_eq_some_iff.mp h).1
      simpa using this
    rw [List.getElem?_set_self hl] at h
    cases h
    exact Or.inl ⟨rfl, rfl⟩
  · rw [List.getElem?_set_ne (Ne.symm hj)] at h
    exact Or.inr ⟨hj, killL_at h⟩
theorem lvset2_at {lv : List (Option MV)} {i j : Nat} {v w : MV} (h : (lvset2 lv i v)[j]? = some (some w)) : (j = i ∧ w = v) ∨ (j ≠ i ∧ j ≠ i + 1 ∧ lv[j]? = some (some w) ∧ ¬ (j + 1 = i ∧ catv w = 2)) := by
  unfold lvset2 at h
  by_cases hj : j = i + 1
  · subst hj
    have hl : i + 1 < ((killL lv i).set i (some v)).length := by
      have := (List.getElem?_eq_some_iff.mp h).1
      simpa using this
    rw [List.getElem?_set_self hl] at h
    cases h
  · rw [List.getElem?_set_ne (Ne.symm hj)] at h
    rcases lvset1_at (show (lvset1 lv i v)[j]? = some (some w) from h) with h | ⟨h1, h2⟩
    · exact Or.inl h
    · exact Or.inr ⟨h1, hj, h2⟩
theorem lvh1 {G : Nv} {lv : List (Option MV)} {ls : Array Slot} {nL i : Nat} {v : MV} {f : Nat × Value → Bool} (hf : f = fun q => !(q.1 == i) && !(q.1 + 1 == i && q.2.category == 2)) (h : lv_has ls nL ((i, rv G v) :: (lvl G lv).filter f)) : lv_has ls nL (lvl G (lvset1 lv i v)) := by
  refine ⟨h.1, h.2.1, fun q hq => ?_⟩
  obtain ⟨w, h1, h2⟩ := lvl_mem' hq
  rcases lvset1_at h1 with ⟨e1, e2⟩ | ⟨e1, e2, e3⟩
  · have := h.2.2 (i, rv G v) List.mem_cons_self
    rw [e1, h2, e2]; exact this
  · have hm : (q.1, rv G w) ∈ (lvl G lv).filter f := by
      refine List.mem_filter.mpr ⟨lvl_mem e2, ?_⟩
      subst hf
      simp only [Bool.and_eq_true, Bool.not_eq_true', beq_eq_false_iff_ne, ne_eq, Bool.and_eq_false_iff, catv_rv]
      refine ⟨e1, ?_⟩
      by_cases a : q.1 + 1 = i
      · exact Or.inr fun z => e3 ⟨a, z⟩
      · exact Or.inl a
    have := h.2.2 _ (List.mem_cons_of_mem _ hm)
    rw [h2]; exact this
theorem lvh2 {G : Nv} {lv : List (Option MV)} {ls : Array Slot} {nL i : Nat} {v : MV} {f : Nat × Value → Bool} (hf : f = fun q => !(q.1 == i) && (!(q.1 == i + 1) && !(q.1 + 1 == i && q.2.category == 2))) (h : lv_has ls nL ((i, rv G v) :: (lvl G lv).filter f)) : lv_has ls nL (lvl G (lvset2 lv i v)) := by
  refine ⟨h.1, h.2.1, fun q hq => ?_⟩
  obtain ⟨w, h1, h2⟩ := lvl_mem' hq
  rcases lvset2_at h1 with ⟨e1, e2⟩ | ⟨e1, e4, e2, e3⟩
  · have := h.2.2 (i, rv G v) List.mem_cons_self
    rw [e1, h2, e2]; exact this
  · have hm : (q.1, rv G w) ∈ (lvl G lv).filter f := by
      refine List.mem_filter.mpr ⟨lvl_mem e2, ?_⟩
      subst hf
      simp only [Bool.and_eq_true, Bool.not_eq_true', beq_eq_false_iff_ne, ne_eq, Bool.and_eq_false_iff, catv_rv]
      refine ⟨e1, e4, ?_⟩
      by_cases a : q.1 + 1 = i
      · exact Or.inr fun z => e3 ⟨a, z⟩
      · exact Or.inl a
    have := h.2.2 _ (List.mem_cons_of_mem _ hm)
    rw [h2]; exact this
theorem okl1 {lv : List (Option MV)} {i : Nat} {v : MV} (h : okl lv) (hv : okv v) : okl (lvset1 lv i v) := fun j w hj => by
  rcases lvset1_at hj with ⟨-, e⟩ | ⟨-, e, -⟩
  · rw [e]; exact hv
  · exact h j w e
theorem okl2 {lv : List (Option MV)} {i : Nat} {v : MV} (h : okl lv) (hv : okv v) : okl (lvset2 lv i v) := fun j w hj => by
  rcases lvset2_at hj with ⟨-, e⟩ | ⟨-, -, e, -⟩
  · rw [e]; exact hv
  · exact h j w e
theorem ra_istore_n {l : Launch} {G : Nv} {Sh : Shp} {M : MD} {Q : Option MV → Mem → Prop} {pc pc' : Nat} {lv lv' : List (Option MV)} {st : List MV} {μ : Mem} {j : Fin 4} {i : Nat} {x : Int} (hd : decode M.2.1 pc = .ok (.istore_n j, 1)) (hp : pc + 1 = pc') (hj : (j : Nat) = i) (hi : i < M.2.2.1) (he : lvset1 lv i (vI x) = lv') (k : RA l G Sh M Q pc' lv' st μ) : RA l G Sh M Q pc lv (vI x :: st) μ := by
  subst hp; subst he
  intro p e s m args below meth c H locs ls X hP hD hS hl hn hm hol hos
  show W p l e (rmM M) s m args below meth c H locs 0 0 _ (F0 m pc ls (.int (Int32.ofInt x) :: st.map (rv G)))
  refine lv_istore_n X.1 X.2.1 hd hj hl hi rfl (fun ls' hl' => ?_)
  exact k p e s m args below meth c H locs ls' X hP hD hS (lvh1 (v := vI x) rfl hl') (by rw [lvset1_len]; exact hn) hm (okl1 hol (hos _ List.mem_cons_self)) (fun v hv => hos v (List.mem_cons_of_mem _ hv))
theorem ra_istore {l : Launch} {G : Nv} {Sh : Shp} {M : MD} {Q : Option MV → Mem → Prop} {pc pc' : Nat} {lv lv' : List (Option MV)} {st : List MV} {μ : Mem} {i : Nat} {x : Int} (hd : decode M.2.1 pc = .ok (.istore i, 2)) (hp : pc + 2 = pc') (hi : i < M.2.2.1) (he : lvset1 lv i (vI x) = lv') (k : RA l G Sh M Q pc' lv' st μ) : RA l G Sh M Q pc lv (vI x :: st) μ := by
  subst hp; subst he
  intro p e s m args below meth c H locs ls X hP hD hS hl hn hm hol hos
  show W p l e (rmM M) s m args below meth c H locs 0 0 _ (F0 m pc ls (.int (Int32.ofInt x) :: st.map (rv G)))
  refine lv_istore X.1 X.2.1 hd hl hi rfl (fun ls' hl' => ?_)
  exact k p e s m args below meth c H locs ls' X hP hD hS (lvh1 (v := vI x) rfl hl') (by rw [lvset1_len]; exact hn) hm (okl1 hol (hos _ List.mem_cons_self)) (fun v hv => hos v (List.mem_cons_of_mem _ hv))
theorem ra_astore_n {l : Launch} {G : Nv} {Sh : Shp} {M : MD} {Q : Option MV → Mem → Prop} {pc pc' : Nat} {lv lv' : List (Option MV)} {st : List MV} {μ : Mem} {j : Fin 4} {i : Nat} {x : Nat} (hd : decode M.2.1 pc = .ok (.astore_n j, 1)) (hp : pc + 1 = pc') (hj : (j : Nat) = i) (hi : i < M.2.2.1) (he : lvset1 lv i (vR x) = lv') (k : RA l G Sh M Q pc' lv' st μ) : RA l G Sh M Q pc lv (vR x :: st) μ := by
  subst hp; subst he
  intro p e s m args below meth c H locs ls X hP hD hS hl hn hm hol hos
  show W p l e (rmM M) s m args below meth c H locs 0 0 _ (F0 m pc ls (.ref (G.2.1 x) :: st.map (rv G)))
  refine lv_astore_n X.1 X.2.1 hd hj hl hi rfl (fun ls' hl' => ?_)
  exact k p e s m args below meth c H locs ls' X hP hD hS (lvh1 (v := vR x) rfl hl') (by rw [lvset1_len]; exact hn) hm (okl1 hol (hos _ List.mem_cons_self)) (fun v hv => hos v (List.mem_cons_of_mem _ hv))
theorem ra_lstore_n {l : Launch} {G : Nv} {Sh : Shp} {M : MD} {Q : Option MV → Mem → Prop} {pc pc' : Nat} {lv lv' : List (Option MV)} {st : List MV} {μ : Mem} {j : Fin 4} {i : Nat} {x : Int} (hd : decode M.2.1 pc = .ok (.lstore_n j, 1)) (hp : pc + 1 = pc') (hj : (j : Nat) = i) (hi : i + 1 < M.2.2.1) (he : lvset2 lv i (vL x) = lv') (k : RA l G Sh M Q pc' lv' st μ) : RA l G Sh M Q pc lv (vL x :: st) μ := by
  subst hp; subst he
  intro p e s m args below meth c H locs ls X hP hD hS hl hn hm hol hos
  show W p l e (rmM M) s m args below meth c H locs 0 0 _ (F0 m pc ls (.long (Int64.ofInt x) :: st.map (rv G)))
  refine lv_lstore_n X.1 X.2.1 hd hj hl hi rfl (fun ls' hl' => ?_)
  exact k p e s m args below meth c H locs ls' X hP hD hS (lvh2 (v := vL x) rfl hl') (by rw [lvset2_len]; exact hn) hm (okl2 hol (hos _ List.mem_cons_self)) (fun v hv => hos v (List.mem_cons_of_mem _ hv))
theorem ra_lstore {l : Launch} {G : Nv} {Sh : Shp} {M : MD} {Q : Option MV → Mem → Prop} {pc pc' : Nat} {lv lv' : List (Option MV)} {st : List MV} {μ : Mem} {i : Nat} {x : Int} (hd : decode M.2.1 pc = .ok (.lstore i, 2)) (hp : pc + 2 = pc') (hi : i + 1 < M.2.2.1) (he : lvset2 lv i (vL x) = lv') (k : RA l G Sh M Q pc' lv' st μ) : RA l G Sh M Q pc lv (vL x :: st) μ := by
  subst hp; subst he
  intro p e s m args below meth c H locs ls X hP hD hS hl hn hm hol hos
  show W p l e (rmM M) s m args below meth c H locs 0 0 _ (F0 m pc ls (.long (Int64.ofInt x) :: st.map (rv G)))
  refine lv_lstore X.1 X.2.1 hd hl hi rfl (fun ls' hl' => ?_)
  exact k p e s m args below meth c H locs ls' X hP hD hS (lvh2 (v := vL x) rfl hl') (by rw [lvset2_len]; exact hn) hm (okl2 hol (hos _ List.mem_cons_self)) (fun v hv => hos v (List.mem_cons_of_mem _ hv))
theorem ra_iinc {l : Launch} {G : Nv} {Sh : Shp} {M : MD} {Q : Option MV → Mem → Prop} {pc pc' : Nat} {lv lv' : List (Option MV)} {st : List MV} {μ : Mem} {i : Nat} {n x : Int} (hd : decode M.2.1 pc = .ok (.iinc i n, 3)) (hp : pc + 3 = pc') (hi : i < M.2.2.1) (hg : lv[i]? = some (some (vI x))) (he : lvset1 lv i (vI (wI (x + n))) = lv') (k : RA l G Sh M Q pc' lv' st μ) : RA l G Sh M Q pc lv st μ := by
  subst hp; subst he
  intro p e s m args below meth c H locs ls X hP hD hS hl hn hm hol hos
  obtain ⟨kk, hkk⟩ := List.getElem?_of_mem (lvl_mem (G := G) hg)
  refine lv_iinc (v := Int32.ofInt (wI (x + n))) X.1 X.2.1 hd hl hkk (by rw [ofInt_wI, Int32.ofInt_add]) hi rfl (fun ls' hl' => ?_)
  exact k p e s m args below meth c H locs ls' X hP hD hS (lvh1 (v := vI (wI (x + n))) rfl hl') (by rw [lvset1_len]; exact hn) hm (okl1 hol (wI_C _)) hos
/-- fewer locals are known -/
theorem ra_forget {l : Launch} {G : Nv} {Sh : Shp} {M : MD} {Q : Option MV → Mem → Prop} {pc : Nat} {lv lv' : List (Option MV)} {st : List MV} {μ : Mem} (hln : lv'.length = lv.length) (h : ∀ (i : Nat) (v : MV), lv'[i]? = some (some v) → lv[i]? = some (some v)) (k : RA l G Sh M Q pc lv' st μ) : RA l G Sh M Q pc lv st μ := by
  intro p e s m args below meth c H locs ls X hP hD hS hl hn hm hol hos
  exact k p e s m args below meth c H locs ls X hP hD hS ⟨hl.1, hl.2.1, fun q hq => by
    obtain ⟨v, h1, h2⟩ := lvl_mem' hq
    rw [h2]
    exact hl.2.2 _ (lvl_mem (h _ _ h1))⟩ (hln.trans hn) hm (fun i v hi => hol i v (h i v hi)) hos
theorem ra_ok {l : Launch} {G : Nv} {Sh : Shp} {M : MD} {Q : Option MV → Mem → Prop} {pc : Nat} {lv : List (Option MV)} {st : List MV} {μ : Mem} (k : oks st → okl lv → okMem Sh μ → RA l G Sh M Q pc lv st μ) : RA l G Sh M Q pc lv st μ := by
  intro p e s m args below meth c H locs ls X hP hD hS hl hn hm hol hos
  exact k hos hol hm p e s m args below meth c H locs ls X hP hD hS hl hn hm hol hos
def fgt (a b : List (Option MV)) : Prop := a.length = b.length ∧ ∀ (i : Nat) (v : MV), a[i]? = some (some v) → b[i]? = some (some v)
theorem fgt_nil : fgt [] [] := ⟨rfl, fun i v h => h⟩
theorem fgt_n {a b : List (Option MV)} {o : Option MV} (h : fgt a b) : fgt (none :: a) (o :: b) := ⟨by simp [h.1], fun i v hi => by
  cases i with
  | zero => simp at hi
  | succ i => simp at hi ⊢; exact h.2 i v hi⟩
theorem fgt_s {a b : List (Option MV)} {o : Option MV} (h : fgt a b) : fgt (o :: a) (o :: b) := ⟨by simp [h.1], fun i v hi => by
  cases i with
  | zero => simp at hi ⊢; exact hi
  | succ i => simp at hi ⊢; exact h.2 i v hi⟩
theorem ra_fgt {l : Launch} {G : Nv} {Sh : Shp} {M : MD} {Q : Option MV → Mem → Prop} {pc : Nat} {lv lv' : List (Option MV)} {st : List MV} {μ : Mem} (h : fgt lv' lv) (k : RA l G Sh M Q pc lv' st μ) : RA l G Sh M Q pc lv st μ := ra_forget h.1 h.2 k
theorem ra_icmp_eq {l : Launch} {G : Nv} {Sh : Shp} {M : MD} {Q : Option MV → Mem → Prop} {pc pc' : Nat} {lv : List (Option MV)} {st : List MV} {μ : Mem} {x y off : Int} {tgt : Nat} (hd : decode M.2.1 pc = .ok (.if_icmp .eq off, 3)) (hp : pc + 3 = pc') (ht : (pc : Int) + off = (tgt : Int)) (kt : x = y → RA l G Sh M Q tgt lv st μ) (kf : ¬ (x = y) → RA l G Sh M Q pc' lv st μ) : RA l G Sh M Q pc lv (vI y :: vI x :: st) μ := by
  subst hp
  intro p e s m args below meth c H locs ls X hP hD hS hl hn hm hol hos
  have hy : C32 y := hos _ List.mem_cons_self
  have hx : C32 x := hos _ (List.mem_cons_of_mem _ List.mem_cons_self)
  show W p l e (rmM M) s m args below meth c H locs 0 0 _ (F0 m pc ls (.int (Int32.ofInt y) :: .int (Int32.ofInt x) :: st.map (rv G)))
  refine lv_icmp_eq X.1 X.2.1 hd ht (fun h => kt ((i32_eq hx hy).mp h) p e s m args below meth c H locs ls X hP hD hS hl hn hm hol (fun v hv => hos v (List.mem_cons_of_mem _ (List.mem_cons_of_mem _ hv)))) (fun h => kf (fun z => h ((i32_eq hx hy).mpr z)) p e s m args below meth c H locs ls X hP hD hS hl hn hm hol (fun v hv => hos v (List.mem_cons_of_mem _ (List.mem_cons_of_mem _ hv))))
theorem ra_if_eq {l : Launch} {G : Nv} {Sh : Shp} {M : MD} {Q : Option MV → Mem → Prop} {pc pc' : Nat} {lv : List (Option MV)} {st : List MV} {μ : Mem} {x off : Int} {tgt : Nat} (hd : decode M.2.1 pc = .ok (.ifCond .eq off, 3)) (hp : pc + 3 = pc') (ht : (pc : Int) + off = (tgt : Int)) (kt : x = 0 → RA l G Sh M Q tgt lv st μ) (kf : ¬ (x = 0) → RA l G Sh M Q pc' lv st μ) : RA l G Sh M Q pc lv (vI x :: st) μ := by
  subst hp
  intro p e s m args below meth c H locs ls X hP hD hS hl hn hm hol hos
  have hy : C32 0 := by decide
  have hx : C32 x := hos _ List.mem_cons_self
  show W p l e (rmM M) s m args below meth c H locs 0 0 _ (F0 m pc ls (.int (Int32.ofInt x) :: st.map (rv G)))
  refine lv_if_eq X.1 X.2.1 hd ht (fun h => kt ((i32_eq hx hy).mp h) p e s m args below meth c H locs ls X hP hD hS hl hn hm hol (fun v hv => hos v (List.mem_cons_of_mem _ hv))) (fun h => kf (fun z => h ((i32_eq hx hy).mpr z)) p e s m args below meth c H locs ls X hP hD hS hl hn hm hol (fun v hv => hos v (List.mem_cons_of_mem _ hv)))
theorem ra_icmp_ne {l : Launch} {G : Nv} {Sh : Shp} {M : MD} {Q : Option MV → Mem → Prop} {pc pc' : Nat} {lv : List (Option MV)} {st : List MV} {μ : Mem} {x y off : Int} {tgt : Nat} (hd : decode M.2.1 pc = .ok (.if_icmp .ne off, 3)) (hp : pc + 3 = pc') (ht : (pc : Int) + off = (tgt : Int)) (kt : ¬ x = y → RA l G Sh M Q tgt lv st μ) (kf : x = y → RA l G Sh M Q pc' lv st μ) : RA l G Sh M Q pc lv (vI y :: vI x :: st) μ := by
  subst hp
  intro p e s m args below meth c H locs ls X hP hD hS hl hn hm hol hos
  have hy : C32 y := hos _ List.mem_cons_self
  have hx : C32 x := hos _ (List.mem_cons_of_mem _ List.mem_cons_self)
  show W p l e (rmM M) s m args below meth c H locs 0 0 _ (F0 m pc ls (.int (Int32.ofInt y) :: .int (Int32.ofInt x) :: st.map (rv G)))
  refine lv_icmp_ne X.1 X.2.1 hd ht (fun h => kt (fun z => h (by rw [z])) p e s m args below meth c H locs ls X hP hD hS hl hn hm hol (fun v hv => hos v (List.mem_cons_of_mem _ (List.mem_cons_of_mem _ hv)))) (fun h => kf ((i32_eq hx hy).mp h) p e s m args below meth c H locs ls X hP hD hS hl hn hm hol (fun v hv => hos v (List.mem_cons_of_mem _ (List.mem_cons_of_mem _ hv))))
theorem ra_if_ne {l : Launch} {G : Nv} {Sh : Shp} {M : MD} {Q : Option MV → Mem → Prop} {pc pc' : Nat} {lv : List (Option MV)} {st : List MV} {μ : Mem} {x off : Int} {tgt : Nat} (hd : decode M.2.1 pc = .ok (.ifCond .ne off, 3)) (hp : pc + 3 = pc') (ht : (pc : Int) + off = (tgt : Int)) (kt : ¬ x = 0 → RA l G Sh M Q tgt lv st μ) (kf : x = 0 → RA l G Sh M Q pc' lv st μ) : RA l G Sh M Q pc lv (vI x :: st) μ := by
  subst hp
  intro p e s m args below meth c H locs ls X hP hD hS hl hn hm hol hos
  have hy : C32 0 := by decide
  have hx : C32 x := hos _ List.mem_cons_self
  show W p l e (rmM M) s m args below meth c H locs 0 0 _ (F0 m pc ls (.int (Int32.ofInt x) :: st.map (rv G)))
  refine lv_if_ne X.1 X.2.1 hd ht (fun h => kt (fun z => h (by rw [z]; rfl)) p e s m args below meth c H locs ls X hP hD hS hl hn hm hol (fun v hv => hos v (List.mem_cons_of_mem _ hv))) (fun h => kf ((i32_eq hx hy).mp h) p e s m args below meth c H locs ls X hP hD hS hl hn hm hol (fun v hv => hos v (List.mem_cons_of_mem _ hv)))
theorem ra_icmp_lt {l : Launch} {G : Nv} {Sh : Shp} {M : MD} {Q : Option MV → Mem → Prop} {pc pc' : Nat} {lv : List (Option MV)} {st : List MV} {μ : Mem} {x y off : Int} {tgt : Nat} (hd : decode M.2.1 pc = .ok (.if_icmp .lt off, 3)) (hp : pc + 3 = pc') (ht : (pc : Int) + off = (tgt : Int)) (kt : x < y → RA l G Sh M Q tgt lv st μ) (kf : ¬ (x < y) → RA l G Sh M Q pc' lv st μ) : RA l G Sh M Q pc lv (vI y :: vI x :: st) μ := by
  subst hp
  intro p e s m args below meth c H locs ls X hP hD hS hl hn hm hol hos
  have hy : C32 y := hos _ List.mem_cons_self
  have hx : C32 x := hos _ (List.mem_cons_of_mem _ List.mem_cons_self)
  show W p l e (rmM M) s m args below meth c H locs 0 0 _ (F0 m pc ls (.int (Int32.ofInt y) :: .int (Int32.ofInt x) :: st.map (rv G)))
  refine lv_icmp_lt X.1 X.2.1 hd ht (fun h => kt ((i32_lt hx hy).mp h) p e s m args below meth c H locs ls X hP hD hS hl hn hm hol (fun v hv => hos v (List.mem_cons_of_mem _ (List.mem_cons_of_mem _ hv)))) (fun h => kf (fun z => h ((i32_lt hx hy).mpr z)) p e s m args below meth c H locs ls X hP hD hS hl hn hm hol (fun v hv => hos v (List.mem_cons_of_mem _ (List.mem_cons_of_mem _ hv))))
theorem ra_if_lt {l : Launch} {G : Nv} {Sh : Shp} {M : MD} {Q : Option MV → Mem → Prop} {pc pc' : Nat} {lv : List (Option MV)} {st : List MV} {μ : Mem} {x off : Int} {tgt : Nat} (hd : decode M.2.1 pc = .ok (.ifCond .lt off, 3)) (hp : pc + 3 = pc') (ht : (pc : Int) + off = (tgt : Int)) (kt : x < 0 → RA l G Sh M Q tgt lv st μ) (kf : ¬ (x < 0) → RA l G Sh M Q pc' lv st μ) : RA l G Sh M Q pc lv (vI x :: st) μ := by
  subst hp
  intro p e s m args below meth c H locs ls X hP hD hS hl hn hm hol hos
  have hy : C32 0 := by decide
  have hx : C32 x := hos _ List.mem_cons_self
  show W p l e (rmM M) s m args below meth c H locs 0 0 _ (F0 m pc ls (.int (Int32.ofInt x) :: st.map (rv G)))
  refine lv_if_lt X.1 X.2.1 hd ht (fun h => kt ((i32_lt hx hy).mp h) p e s m args below meth c H locs ls X hP hD hS hl hn hm hol (fun v hv => hos v (List.mem_cons_of_mem _ hv))) (fun h => kf (fun z => h ((i32_lt hx hy).mpr z)) p e s m args below meth c H locs ls X hP hD hS hl hn hm hol (fun v hv => hos v (List.mem_cons_of_mem _ hv)))
theorem ra_icmp_ge {l : Launch} {G : Nv} {Sh : Shp} {M : MD} {Q : Option MV → Mem → Prop} {pc pc' : Nat} {lv : List (Option MV)} {st : List MV} {μ : Mem} {x y off : Int} {tgt : Nat} (hd : decode M.2.1 pc = .ok (.if_icmp .ge off, 3)) (hp : pc + 3 = pc') (ht : (pc : Int) + off = (tgt : Int)) (kt : y ≤ x → RA l G Sh M Q tgt lv st μ) (kf : ¬ (y ≤ x) → RA l G Sh M Q pc' lv st μ) : RA l G Sh M Q pc lv (vI y :: vI x :: st) μ := by
  subst hp
  intro p e s m args below meth c H locs ls X hP hD hS hl hn hm hol hos
  have hy : C32 y := hos _ List.mem_cons_self
  have hx : C32 x := hos _ (List.mem_cons_of_mem _ List.mem_cons_self)
  show W p l e (rmM M) s m args below meth c H locs 0 0 _ (F0 m pc ls (.int (Int32.ofInt y) :: .int (Int32.ofInt x) :: st.map (rv G)))
  refine lv_icmp_ge X.1 X.2.1 hd ht (fun h => kt ((i32_le hy hx).mp h) p e s m args below meth c H locs ls X hP hD hS hl hn hm hol (fun v hv => hos v (List.mem_cons_of_mem _ (List.mem_cons_of_mem _ hv)))) (fun h => kf (fun z => h ((i32_le hy hx).mpr z)) p e s m args below meth c H locs ls X hP hD hS hl hn hm hol (fun v hv => hos v (List.mem_cons_of_mem _ (List.mem_cons_of_mem _ hv))))
theorem ra_if_ge {l : Launch} {G : Nv} {Sh : Shp} {M : MD} {Q : Option MV → Mem → Prop} {pc pc' : Nat} {lv : List (Option MV)} {st : List MV} {μ : Mem} {x off : Int} {tgt : Nat} (hd : decode M.2.1 pc = .ok (.ifCond .ge off, 3)) (hp : pc + 3 = pc') (ht : (pc : Int) + off = (tgt : Int)) (kt : 0 ≤ x → RA l G Sh M Q tgt lv st μ) (kf : ¬ (0 ≤ x) → RA l G Sh M Q pc' lv st μ) : RA l G Sh M Q pc lv (vI x :: st) μ := by
  subst hp
  intro p e s m args below meth c H locs ls X hP hD hS hl hn hm hol hos
  have hy : C32 0 := by decide
  have hx : C32 x := hos _ List.mem_cons_self
  show W p l e (rmM M) s m args below meth c H locs 0 0 _ (F0 m pc ls (.int (Int32.ofInt x) :: st.map (rv G)))
  refine lv_if_ge X.1 X.2.1 hd ht (fun h => kt ((i32_le hy hx).mp h) p e s m args below meth c H locs ls X hP hD hS hl hn hm hol (fun v hv => hos v (List.mem_cons_of_mem _ hv))) (fun h => kf (fun z => h ((i32_le hy hx).mpr z)) p e s m args below meth c H locs ls X hP hD hS hl hn hm hol (fun v hv => hos v (List.mem_cons_of_mem _ hv)))
theorem ra_icmp_gt {l : Launch} {G : Nv} {Sh : Shp} {M : MD} {Q : Option MV → Mem → Prop} {pc pc' : Nat} {lv : List (Option MV)} {st : List MV} {μ : Mem} {x y off : Int} {tgt : Nat} (hd : decode M.2.1 pc = .ok (.if_icmp .gt off, 3)) (hp : pc + 3 = pc') (ht : (pc : Int) + off = (tgt : Int)) (kt : y < x → RA l G Sh M Q tgt lv st μ) (kf : ¬ (y < x) → RA l G Sh M Q pc' lv st μ) : RA l G Sh M Q pc lv (vI y :: vI x :: st) μ := by
  subst hp
  intro p e s m args below meth c H locs ls X hP hD hS hl hn hm hol hos
  have hy : C32 y := hos _ List.mem_cons_self
  have hx : C32 x := hos _ (List.mem_cons_of_mem _ List.mem_cons_self)
  show W p l e (rmM M) s m args below meth c H locs 0 0 _ (F0 m pc ls (.int (Int32.ofInt y) :: .int (Int32.ofInt x) :: st.map (rv G)))
  refine lv_icmp_gt X.1 X.2.1 hd ht (fun h => kt ((i32_lt hy hx).mp h) p e s m args below meth c H locs ls X hP hD hS hl hn hm hol (fun v hv => hos v (List.mem_cons_of_mem _ (List.mem_cons_of_mem _ hv)))) (fun h => kf (fun z => h ((i32_lt hy hx).mpr z)) p e s m args below meth c H locs ls X hP hD hS hl hn hm hol (fun v hv => hos v (List.mem_cons_of_mem _ (List.mem_cons_of_mem _ hv))))
theorem ra_if_gt {l : Launch} {G : Nv} {Sh : Shp} {M : MD} {Q : Option MV → Mem → Prop} {pc pc' : Nat} {lv : List (Option MV)} {st : List MV} {μ : Mem} {x off : Int} {tgt : Nat} (hd : decode M.2.1 pc = .ok (.ifCond .gt off, 3)) (hp : pc + 3 = pc') (ht : (pc : Int) + off = (tgt : Int)) (kt : 0 < x → RA l G Sh M Q tgt lv st μ) (kf : ¬ (0 < x) → RA l G Sh M Q pc' lv st μ) : RA l G Sh M Q pc lv (vI x :: st) μ := by
  subst hp
  intro p e s m args below meth c H locs ls X hP hD hS hl hn hm hol hos
  have hy : C32 0 := by decide
  have hx : C32 x := hos _ List.mem_cons_self
  show W p l e (rmM M) s m args below meth c H locs 0 0 _ (F0 m pc ls (.int (Int32.ofInt x) :: st.map (rv G)))
  refine lv_if_gt X.1 X.2.1 hd ht (fun h => kt ((i32_lt hy hx).mp h) p e s m args below meth c H locs ls X hP hD hS hl hn hm hol (fun v hv => hos v (List.mem_cons_of_mem _ hv))) (fun h => kf (fun z => h ((i32_lt hy hx).mpr z)) p e s m args below meth c H locs ls X hP hD hS hl hn hm hol (fun v hv => hos v (List.mem_cons_of_mem _ hv)))
theorem ra_icmp_le {l : Launch} {G : Nv} {Sh : Shp} {M : MD} {Q : Option MV → Mem → Prop} {pc pc' : Nat} {lv : List (Option MV)} {st : List MV} {μ : Mem} {x y off : Int} {tgt : Nat} (hd : decode M.2.1 pc = .ok (.if_icmp .le off, 3)) (hp : pc + 3 = pc') (ht : (pc : Int) + off = (tgt : Int)) (kt : x ≤ y → RA l G Sh M Q tgt lv st μ) (kf : ¬ (x ≤ y) → RA l G Sh M Q pc' lv st μ) : RA l G Sh M Q pc lv (vI y :: vI x :: st) μ := by
  subst hp
  intro p e s m args below meth c H locs ls X hP hD hS hl hn hm hol hos
  have hy : C32 y := hos _ List.mem_cons_self
  have hx : C32 x := hos _ (List.mem_cons_of_mem _ List.mem_cons_self)
  show W p l e (rmM M) s m args below meth c H locs 0 0 _ (F0 m pc ls (.int (Int32.ofInt y) :: .int (Int32.ofInt x) :: st.map (rv G)))
  refine lv_icmp_le X.1 X.2.1 hd ht (fun h => kt ((i32_le hx hy).mp h) p e s m args below meth c H locs ls X hP hD hS hl hn hm hol (fun v hv => hos v (List.mem_cons_of_mem _ (List.mem_cons_of_mem _ hv)))) (fun h => kf (fun z => h ((i32_le hx hy).mpr z)) p e s m args below meth c H locs ls X hP hD hS hl hn hm hol (fun v hv => hos v (List.mem_cons_of_mem _ (List.mem_cons_of_mem _ hv))))
theorem ra_if_le {l : Launch} {G : Nv} {Sh : Shp} {M : MD} {Q : Option MV → Mem → Prop} {pc pc' : Nat} {lv : List (Option MV)} {st : List MV} {μ : Mem} {x off : Int} {tgt : Nat} (hd : decode M.2.1 pc = .ok (.ifCond .le off, 3)) (hp : pc + 3 = pc') (ht : (pc : Int) + off = (tgt : Int)) (kt : x ≤ 0 → RA l G Sh M Q tgt lv st μ) (kf : ¬ (x ≤ 0) → RA l G Sh M Q pc' lv st μ) : RA l G Sh M Q pc lv (vI x :: st) μ := by
  subst hp
  intro p e s m args below meth c H locs ls X hP hD hS hl hn hm hol hos
  have hy : C32 0 := by decide
  have hx : C32 x := hos _ List.mem_cons_self
  show W p l e (rmM M) s m args below meth c H locs 0 0 _ (F0 m pc ls (.int (Int32.ofInt x) :: st.map (rv G)))
  refine lv_if_le X.1 X.2.1 hd ht (fun h => kt ((i32_le hx hy).mp h) p e s m args below meth c H locs ls X hP hD hS hl hn hm hol (fun v hv => hos v (List.mem_cons_of_mem _ hv))) (fun h => kf (fun z => h ((i32_le hx hy).mpr z)) p e s m args below meth c H locs ls X hP hD hS hl hn hm hol (fun v hv => hos v (List.mem_cons_of_mem _ hv)))
theorem ra_goto {l : Launch} {G : Nv} {Sh : Shp} {M : MD} {Q : Option MV → Mem → Prop} {pc pc' : Nat} {lv : List (Option MV)} {st : List MV} {μ : Mem} {off : Int} (hd : decode M.2.1 pc = .ok (.goto off, 3)) (ht : (pc : Int) + off = (pc' : Int)) (k : RA l G Sh M Q pc' lv st μ) : RA l G Sh M Q pc lv st μ := by
  intro p e s m args below meth c H locs ls X hP hD hS hl hn hm hol hos
  exact lv_goto X.1 X.2.1 hd ht (k p e s m args below meth c H locs ls X hP hD hS hl hn hm hol hos)
theorem ra_swIn {l : Launch} {G : Nv} {Sh : Shp} {M : MD} {Q : Option MV → Mem → Prop} {pc : Nat} {lv : List (Option MV)} {st : List MV} {μ : Mem} {dflt lo hi x off : Int} {offs : Array Int} {len tgt j : Nat} (hd : decode M.2.1 pc = .ok (.tableswitch dflt lo hi offs, len)) (hx : x = lo + j) (hj : lo + j ≤ hi) (ho : offs[j]? = some off) (ht : (pc : Int) + off = (tgt : Int)) (k : RA l G Sh M Q tgt lv st μ) : RA l G Sh M Q pc lv (vI x :: st) μ := by
  intro p e s m args below meth c H locs ls X hP hD hS hl hn hm hol hos
  have hc : (Int32.ofInt x).toInt = x := i32_toInt (hos _ List.mem_cons_self)
  show W p l e (rmM M) s m args below meth c H locs 0 0 _ (F0 m pc ls (.int (Int32.ofInt x) :: st.map (rv G)))
  exact lv_tableIn X.1 X.2.1 hd (by omega) (by omega) (by rw [hc, hx, show (lo + (j : Int) - lo).toNat = j by omega]; exact ho) ht (k p e s m args below meth c H locs ls X hP hD hS hl hn hm hol (fun v hv => hos v (List.mem_cons_of_mem _ hv)))
theorem ra_swOut {l : Launch} {G : Nv} {Sh : Shp} {M : MD} {Q : Option MV → Mem → Prop} {pc : Nat} {lv : List (Option MV)} {st : List MV} {μ : Mem} {dflt lo hi x : Int} {offs : Array Int} {len tgt : Nat} (ks : List Nat) (hd : decode M.2.1 pc = .ok (.tableswitch dflt lo hi offs, len)) (hx : ∀ j ∈ ks, ¬ x = lo + (j : Int)) (hj : ∀ j, j < (hi - lo + 1).toNat → j ∈ ks ∨ offs[j]? = some dflt) (ht : (pc : Int) + dflt = (tgt : Int)) (k : RA l G Sh M Q tgt lv st μ) : RA l G Sh M Q pc lv (vI x :: st) μ := by
  intro p e s m args below meth c H locs ls X hP hD hS hl hn hm hol hos
  have hc : (Int32.ofInt x).toInt = x := i32_toInt (hos _ List.mem_cons_self)
  show W p l e (rmM M) s m args below meth c H locs 0 0 _ (F0 m pc ls (.int (Int32.ofInt x) :: st.map (rv G)))
  have kk := k p e s m args below meth c H locs ls X hP hD hS hl hn hm hol (fun v hv => hos v (List.mem_cons_of_mem _ hv))
  by_cases h : x < lo ∨ hi < x
  · exact lv_tableOut X.1 X.2.1 hd (by rw [hc]; exact h) ht kk
  · have h2 : (x - lo).toNat < (hi - lo + 1).toNat := by omega
    rcases hj _ h2 with h3 | h3
    · exact absurd (by omega) (hx _ h3)
    · exact lv_tableIn X.1 X.2.1 hd (by omega) (by omega) (by rw [hc]; exact h3) ht kk
