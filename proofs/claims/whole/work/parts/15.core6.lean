theorem ra_gets {l : Launch} {G : Nv} {Sh : Shp} {M : MD} {Q : Option MV → Mem → Prop} {pc pc' : Nat} {lv : List (Option MV)} {st : List MV} {μ : Mem} {idx : Nat} {C n d : String} {v : MV} (hd : decode M.2.1 pc = .ok (.getstatic idx, 3)) (hp : pc + 3 = pc') (hz : (C, n, d, rv G v) ∈ roStat G) (hv : okv v) (hw : Cond.fieldLink M.1.cls idx C n d ∈ TBL) (k : RA l G Sh M Q pc' lv (v :: st) μ) : RA l G Sh M Q pc lv st μ := by
  subst hp
  refine ra_go (st' := v :: st) (fun hos hol hm => List.forall_mem_cons.mpr ⟨hv, hos⟩) ?_ k
  intro p e s m args below meth c H locs ls QQ X hP hS hl hm hol hos kk
  exact va_gets X.1 X.2.1 (X.2.2.2.2.2.2.2.2.1.2.1 _ hz) hS X.2.2.2.2.2.1 (X.2.2.2.2.2.2.1 _ (List.mem_cons_of_mem _ hw)) (fun _ h => h) hd kk
theorem ra_getsN {l : Launch} {G : Nv} {Sh : Shp} {M : MD} {Q : Option MV → Mem → Prop} {pc pc' : Nat} {lv : List (Option MV)} {st : List MV} {μ : Mem} {idx : Nat} {C n d host : String} {v : MV} (hd : decode M.2.1 pc = .ok (.getstatic idx, 3)) (hp : pc + 3 = pc') (hz : (C, n, d, rv G v) ∈ roStat G) (hv : okv v) (hw : Cond.fieldLinkNest M.1.cls idx C n d host ∈ tables_1) (k : RA l G Sh M Q pc' lv (v :: st) μ) : RA l G Sh M Q pc lv st μ := by
  subst hp
  refine ra_go (st' := v :: st) (fun hos hol hm => List.forall_mem_cons.mpr ⟨hv, hos⟩) ?_ k
  intro p e s m args below meth c H locs ls QQ X hP hS hl hm hol hos kk
  exact va_getsN X.1 X.2.1 (X.2.2.2.2.2.2.2.2.1.2.1 _ hz) hS X.2.2.2.2.2.1 (va_Nw.use rfl (X.2.2.2.2.2.2.2.2.1.1 _ hw rfl)) (fun _ h => h) hd kk
theorem ra_ti {l : Launch} {G : Nv} {Sh : Shp} {M : MD} {Q : Option MV → Mem → Prop} {pc pc' : Nat} {lv : List (Option MV)} {st : List MV} {μ : Mem} {a : Nat} {i : Int} {f : List Int} (hd : decode M.2.1 pc = .ok (.iaload, 1)) (hp : pc + 1 = pc') (he : (a, FieldType.int, f) ∈ roArr) (hn : f.length < 2147483648) (hf : ∀ x ∈ f, C32 x) (h0 : 0 ≤ i) (h1 : i < f.length) (k : RA l G Sh M Q pc' lv (vI (f.getD i.toNat 0) :: st) μ) : RA l G Sh M Q pc lv (vI i :: vR a :: st) μ := by
  subst hp
  refine ra_go (st' := vI (f.getD i.toNat 0) :: st) (fun hos hol hm => List.forall_mem_cons.mpr ⟨?_, fun v hv => hos v (List.mem_cons_of_mem _ (List.mem_cons_of_mem _ hv))⟩) ?_ k
  · show C32 (f.getD i.toNat 0)
    rw [List.getD_eq_getElem?_getD]
    cases hx : f[i.toNat]? with
    | none => decide
    | some y => exact hf y (List.mem_of_getElem? hx)
  · intro p e s m args below meth c H locs ls QQ X hP hS hl hm hol hos kk
    show W p l e (rmM M) s m args below meth c H locs 0 0 _ (F0 m pc ls (.int (Int32.ofInt i) :: .ref (G.2.1 a) :: st.map (rv G)))
    refine va_ti X.1 X.2.1 (X.2.2.2.2.2.2.2.2.1.2.2.1 _ he) hS (idx_in h0 h1 hn) rfl hd ?_
    rw [idx_nat h0 h1 hn]
    exact kk
theorem ra_tlen {l : Launch} {G : Nv} {Sh : Shp} {M : MD} {Q : Option MV → Mem → Prop} {pc pc' : Nat} {lv : List (Option MV)} {st : List MV} {μ : Mem} {a : Nat} {f : List Int} (hd : decode M.2.1 pc = .ok (.arraylength, 1)) (hp : pc + 1 = pc') (he : (a, FieldType.int, f) ∈ roArr) (hn : f.length < 2147483648) (k : RA l G Sh M Q pc' lv (vI (f.length : Int) :: st) μ) : RA l G Sh M Q pc lv (vR a :: st) μ := by
  subst hp
  refine ra_go (st' := vI (f.length : Int) :: st) (fun hos hol hm => List.forall_mem_cons.mpr ⟨⟨by omega, by omega⟩, fun v hv => hos v (List.mem_cons_of_mem _ hv)⟩) ?_ k
  intro p e s m args below meth c H locs ls QQ X hP hS hl hm hol hos kk
  show W p l e (rmM M) s m args below meth c H locs 0 0 _ (F0 m pc ls (.ref (G.2.1 a) :: st.map (rv G)))
  exact va_tlen X.1 X.2.1 (X.2.2.2.2.2.2.2.2.1.2.2.1 _ he) hS (Int32.ofInt_eq_ofNat (n := f.length)).symm hd kk
theorem tx_get {i : Nat} : (roTx.map List.length).getD i 0 = (roTx.getD i []).length ∧ (roTx.map (fun t => t.map Int32.ofInt)).getD i [] = (roTx.getD i []).map Int32.ofInt := by
  simp only [List.getD_eq_getElem?_getD, List.getElem?_map]
  cases roTx[i]? <;> simp
theorem tx_ok (i : Nat) : ∀ x ∈ roTx.getD i [], 0 ≤ x ∧ x < 128 := by
  intro x hx
  rw [List.getD_eq_getElem?_getD] at hx
  cases h : roTx[i]? with
  | none => rw [h] at hx; simp at hx
  | some t =>
    rw [h] at hx
    have ht : ∀ t ∈ roTx, ∀ x ∈ t, 0 ≤ x ∧ x < 128 := by decide
    exact ht t (List.mem_of_getElem? h) x hx
theorem tx_len (i : Nat) : (roTx.getD i []).length < 10 := by
  rw [List.getD_eq_getElem?_getD]
  cases h : roTx[i]? with
  | none => simp
  | some t =>
    have ht : ∀ t ∈ roTx, t.length < 10 := by decide
    exact ht t (List.mem_of_getElem? h)
/-- a byte of a String constant -/
theorem ra_tb {l : Launch} {G : Nv} {Sh : Shp} {M : MD} {Q : Option MV → Mem → Prop} {pc pc' : Nat} {lv : List (Option MV)} {st : List MV} {μ : Mem} {j : Nat} {i : Int} (hd : decode M.2.1 pc = .ok (.baload, 1)) (hp : pc + 1 = pc') (hj : j < 14) (h0 : 0 ≤ i) (h1 : i < (roTx.getD j []).length) (k : RA l G Sh M Q pc' lv (vI ((roTx.getD j []).getD i.toNat 0) :: st) μ) : RA l G Sh M Q pc lv (vI i :: vR (120 + j) :: st) μ := by
  subst hp
  have hlen := tx_len j
  refine ra_go (st' := vI ((roTx.getD j []).getD i.toNat 0) :: st) (fun hos hol hm => List.forall_mem_cons.mpr ⟨?_, fun v hv => hos v (List.mem_cons_of_mem _ (List.mem_cons_of_mem _ hv))⟩) ?_ k
  · show C32 _
    rw [List.getD_eq_getElem?_getD]
    cases hx : (roTx.getD j [])[i.toNat]? with
    | none => decide
    | some y => have := tx_ok j y (List.mem_of_getElem? hx); exact ⟨by simp; omega, by simp; omega⟩
  · intro p e s m args below meth c H locs ls QQ X hP hS hl hm hol hos kk
    show W p l e (rmM M) s m args below meth c H locs 0 0 _ (F0 m pc ls (.int (Int32.ofInt i) :: .ref (G.2.1 (120 + j)) :: st.map (rv G)))
    have hT := (X.2.2.2.2.2.2.2.2.1.2.2.2.1.1 j hj).2.2.2
    rw [tx_get.1, tx_get.2] at hT
    refine va_tb X.1 X.2.1 hT hS (idx_in h0 h1 (by omega)) rfl hd ?_
    have e : Value.int ((List.map Int32.ofInt (roTx.getD j [])).getD (Int32.ofInt i).toNatClampNeg 0) = rv G (vI ((roTx.getD j []).getD i.toNat 0)) := by
      rw [idx_nat h0 h1 (by omega)]
      show Value.int _ = Value.int (Int32.ofInt _)
      congr 1
      simp only [List.getD_eq_getElem?_getD, List.getElem?_map]
      cases (roTx[j]?.getD [])[i.toNat]? <;> rfl
    rw [e]
    exact kk
theorem ra_tblen {l : Launch} {G : Nv} {Sh : Shp} {M : MD} {Q : Option MV → Mem → Prop} {pc pc' : Nat} {lv : List (Option MV)} {st : List MV} {μ : Mem} {j : Nat} (hd : decode M.2.1 pc = .ok (.arraylength, 1)) (hp : pc + 1 = pc') (hj : j < 14) (k : RA l G Sh M Q pc' lv (vI ((roTx.getD j []).length : Int) :: st) μ) : RA l G Sh M Q pc lv (vR (120 + j) :: st) μ := by
  subst hp
  have hlen := tx_len j
  refine ra_go (st' := vI ((roTx.getD j []).length : Int) :: st) (fun hos hol hm => List.forall_mem_cons.mpr ⟨⟨by omega, by omega⟩, fun v hv => hos v (List.mem_cons_of_mem _ hv)⟩) ?_ k
  intro p e s m args below meth c H locs ls QQ X hP hS hl hm hol hos kk
  show W p l e (rmM M) s m args below meth c H locs 0 0 _ (F0 m pc ls (.ref (G.2.1 (120 + j)) :: st.map (rv G)))
  have hT := (X.2.2.2.2.2.2.2.2.1.2.2.2.1.1 j hj).2.2.2
  rw [tx_get.1] at hT
  exact va_tlen X.1 X.2.1 hT hS (Int32.ofInt_eq_ofNat (n := (roTx.getD j []).length)).symm hd kk
theorem ra_sval {l : Launch} {G : Nv} {Sh : Shp} {M : MD} {Q : Option MV → Mem → Prop} {pc pc' : Nat} {lv : List (Option MV)} {st : List MV} {μ : Mem} {j idx : Nat} (hd : decode M.2.1 pc = .ok (.getfield idx, 3)) (hp : pc + 3 = pc') (hj : j < 14) (hw : Cond.fieldLink M.1.cls idx "java/lang/String" "value" "[B" ∈ TBL) (k : RA l G Sh M Q pc' lv (vR (120 + j) :: st) μ) : RA l G Sh M Q pc lv (vR (100 + j) :: st) μ := by
  subst hp
  refine ra_go (st' := vR (120 + j) :: st) (fun hos hol hm => List.forall_mem_cons.mpr ⟨trivial, fun v hv => hos v (List.mem_cons_of_mem _ hv)⟩) ?_ k
  intro p e s m args below meth c H locs ls QQ X hP hS hl hm hol hos kk
  show W p l e (rmM M) s m args below meth c H locs 0 0 _ (F0 m pc ls (.ref (G.2.1 (100 + j)) :: st.map (rv G)))
  exact vk_getf X.1 X.2.1 (X.2.2.2.2.2.2.2.2.1.2.2.2.1.1 j hj).2.2.1 hS X.2.2.2.2.2.1 (X.2.2.2.2.2.2.1 _ (List.mem_cons_of_mem _ hw)) (fun _ h => h) hd kk
theorem ra_scod {l : Launch} {G : Nv} {Sh : Shp} {M : MD} {Q : Option MV → Mem → Prop} {pc pc' : Nat} {lv : List (Option MV)} {st : List MV} {μ : Mem} {j idx : Nat} (hd : decode M.2.1 pc = .ok (.getfield idx, 3)) (hp : pc + 3 = pc') (hj : j < 14) (hw : Cond.fieldLink M.1.cls idx "java/lang/String" "coder" "B" ∈ TBL) (k : RA l G Sh M Q pc' lv (vI 0 :: st) μ) : RA l G Sh M Q pc lv (vR (100 + j) :: st) μ := by
  subst hp
  refine ra_go (st' := vI 0 :: st) (fun hos hol hm => List.forall_mem_cons.mpr ⟨by show C32 0; decide, fun v hv => hos v (List.mem_cons_of_mem _ hv)⟩) ?_ k
  intro p e s m args below meth c H locs ls QQ X hP hS hl hm hol hos kk
  show W p l e (rmM M) s m args below meth c H locs 0 0 _ (F0 m pc ls (.ref (G.2.1 (100 + j)) :: st.map (rv G)))
  exact vk_getf X.1 X.2.1 (X.2.2.2.2.2.2.2.2.1.2.2.2.1.1 j hj).2.1 hS X.2.2.2.2.2.1 (X.2.2.2.2.2.2.1 _ (List.mem_cons_of_mem _ hw)) (fun _ h => h) hd kk
theorem ra_ldcS {l : Launch} {G : Nv} {Sh : Shp} {M : MD} {Q : Option MV → Mem → Prop} {pc pc' : Nat} {lv : List (Option MV)} {st : List MV} {μ : Mem} {j idx : Nat} {tx : String} (hd : decode M.2.1 pc = .ok (.ldc idx, 2)) (hp : pc + 2 = pc') (ho : M.1.cls = "WheelsWidths$Reader") (hj : (idx, tx, j) ∈ roStr) (k : RA l G Sh M Q pc' lv (vR (100 + j) :: st) μ) : RA l G Sh M Q pc lv st μ := by
  subst hp
  refine ra_go (st' := vR (100 + j) :: st) (fun hos hol hm => List.forall_mem_cons.mpr ⟨trivial, hos⟩) ?_ k
  intro p e s m args below meth c H locs ls QQ X hP hS hl hm hol hos kk
  exact va_ldcS X.1 X.2.1 X.2.2.2.2.2.1 (by rw [ho]; exact X.2.2.2.2.2.2.2.2.1.2.2.2.2 _ hj) hd kk
/-! ===== calls ===== -/
def MGood (M' : MD) (n : Nat) : Prop := MD.code M' ∈ TBL ∧ Cond.initialized M'.1.cls ∈ TBL ∧ M'.1.cls ≠ "java/lang/invoke/MethodHandle" ∧ M'.1.cls ≠ "java/lang/invoke/VarHandle" ∧ (parseMethodDescriptor M'.1.desc).map (fun d => d.parameters.length) = some n
def MInst (M' : MD) : Prop := Cond.instanceMethod M'.1 ∈ TBL ∧ Cond.selects M'.1.cls M'.1 M'.1 ∈ TBL
def MFits (M M' : MD) : Prop := M'.2.2.2.2.1 + 1 ≤ M.2.2.2.2.1 ∧ 8 + (M'.2.2.1 + 11) + M'.2.2.2.2.2 ≤ M.2.2.2.2.2
def Recv (Sh : Shp) (b : Nat) (C : String) : Prop := (∃ (ci : Nat) (slots : List Nat) (T : u_T) (N : Nat), Sh[b]? = some (ci + 3, 0, slots) ∧ vwCl[ci]? = some (C, T, N)) ∨ (C = "java/lang/String" ∧ ∃ j, j < 14 ∧ b = 100 + j)
theorem wsM_good (M M' : MD) (h : MD.code M' ∈ TBL) : GoodIn (wsM M) (wsM M') := fun w hw => by
  rcases List.mem_cons.mp hw with rfl | hw
  · exact ⟨List.mem_cons_of_mem _ h, tbl_good _ h⟩
  · exact ⟨List.mem_cons_of_mem _ hw, tbl_good _ hw⟩
theorem WA_mono {G : Nv} {Sh : Shp} {a b q : Nat} (h : a ≤ b) (hq : WA G Sh b q) : WA G Sh a q := hq.elim Or.inl (fun h2 => Or.inr (Nat.le_trans h h2))
theorem PcOf_blind {G : Nv} {Sh : Shp} {as : List MV} {μ : Mem} {sz : Nat} : FrameBlind (PcOf G Sh as μ sz) := fun a U g mk q => by
  obtain ⟨q0, q1, q2, q3, q4, q5⟩ := q
  exact ⟨q0, q1, q2, va_K.moved (u := U) (U := U.calling g mk a) (Vm.Alike.refl U.vm) q3, q4, Amb.same (U := U) (V := U.calling g mk a) (H := U.heap) rfl q5⟩
theorem pc_of {l : Launch} {G : Nv} {Sh : Shp} {M : MD} {μ : Mem} {as : List MV} {p : Program} {s : State} {m : MethodId} {args : Array Value} {meth : Method} {c : Code} {H : Heap} {locs : List Loc} (X : RX l G M p s m args meth c (WA G Sh s.heap.size)) (hP : va_P G.1 vwCl (wsOf G Sh μ) H) (hD : va_D (WA G Sh s.heap.size) (wsOf G Sh μ)) (hS : va_S (WA G Sh s.heap.size) s.heap H locs) : ∀ U : State, U.heap = H → s.WarmedH U.vm → PcOf G Sh as μ H.size (as.map (rv G)).toArray U := fun U hU hW => by
  refine ⟨rfl, by rw [hU], by rw [hU]; exact hP, va_K.moved hW.alike X.2.2.2.2.2.2.2.1, hD.weaken (fun _ _ _ _ => trivial), ?_⟩
  rw [hU]
  exact ((X.2.2.2.2.2.2.2.2.1.kept hS.2.1).narrow (fun q hq => WA_mono hS.1 hq)).warm hW
theorem ra_after {l : Launch} {G : Nv} {Sh : Shp} {M : MD} {Q : Option MV → Mem → Prop} {pc : Nat} {lv : List (Option MV)} {st : List MV} {M' : MD} {Q' : Option MV → Mem → Prop} {a : Array Value} {p : Program} {e : Env} {s : State} {m : MethodId} {args : Array Value} {below : List Frame} {meth : Method} {c : Code} {H : Heap} {locs : List Loc} {ls : Array Slot} {st0 : List Value}
    (k : ∀ r μ', Q' r μ' → okr M'.2.2.2.1 r → RA l G Sh M Q (pc + 3) lv (r.toList ++ st) μ')
    (X : RX l G M p s m args meth c (WA G Sh s.heap.size)) (hS : va_S (WA G Sh s.heap.size) s.heap H locs) (hl : lv_has ls M.2.2.1 (lvl G lv)) (hn : lv.length = M.2.2.1) (hol : okl lv) (hos : oks st)
    (hr : va_Run p l e (rmM M) s m args below meth c H locs 0 0 0 0 (F0 m pc ls st0) (st.map (rv G)) (QcOf G Sh M' (WA G Sh H.size) Q' a) (WA G Sh H.size)) :
    W p l e (rmM M) s m args below meth c H locs 0 0 (MQ below (QcOf G Sh M (WA G Sh s.heap.size) Q) args s 0 0 (WA G Sh s.heap.size)) (F0 m pc ls st0) := by
  intro T hT XX
  obtain ⟨v, st₀, t, T', L, h0, X', hL, e1, e2, ⟨⟨r, μ', hv, hq, hok, hm', hP', hK', hD'⟩, hz, hk⟩, stp⟩ := hr T hT XX
  cases hv
  rw [h0] at hz hk
  have hsz : s.heap.size ≤ H.size := hS.1
  have hmono : ∀ q, WA G Sh H.size q → WA G Sh s.heap.size q := fun q hq => WA_mono hsz hq
  have hval : (r.map (rv G)).toList ++ st.map (rv G) = (r.toList ++ st).map (rv G) := by cases r <;> rfl
  rw [hval] at stp
  have hos' : oks (r.toList ++ st) := fun w hw => by
    rcases List.mem_append.mp hw with h | h
    · cases r with
      | none => cases h
      | some z => rw [List.mem_singleton.mp h]; exact hok.1
    · exact hos w h
  obtain ⟨t2, a1, b1⟩ := k r μ' hq hok p e s m args below meth c T'.heap (locs ++ L) ls X (by rw [e1]; exact hP') (hD'.weaken (fun _ q _ h => hmono _ h))
    ⟨Nat.le_trans hsz (by rw [e1]; exact hz), fun q h1 h2 => by rw [e1, hk q (Nat.lt_of_lt_of_le h1 hsz) (fun z => h2 (hmono _ z))]; exact hS.2.1 q h1 h2, fun q hq => by
      rcases List.mem_append.mp hq with h | h
      · exact hS.2.2 q h
      · exact hmono _ (hL q h)⟩ hl hn hm' hol hos' T' rfl X'
  exact ⟨t2, stp t2 a1, b1⟩
theorem recv_mv {l : Launch} {G : Nv} {Sh : Shp} {M : MD} {μ : Mem} {b : Nat} {C : String} {p : Program} {s : State} {m : MethodId} {args : Array Value} {meth : Method} {c : Code} {H : Heap} {locs : List Loc} (hb : Recv Sh b C) (X : RX l G M p s m args meth c (WA G Sh s.heap.size)) (hP : va_P G.1 vwCl (wsOf G Sh μ) H) (hS : va_S (WA G Sh s.heap.size) s.heap H locs) : ∃ cellB : Cell, H[G.2.1 b]? = some cellB ∧ cellB.vm.isStatics = false ∧ s.vm.findClass C = some cellB.cls := by
  rcases hb with ⟨ci, slots, T, N, h1, h2⟩ | ⟨rfl, j, hj, rfl⟩
  · exact va_recv X.2.2.2.2.2.2.2.1 hP h2 (wsOf_obj h1)
  · exact vk_recv (adK := fun i => G.2.1 (100 + i)) (i := j) X.2.2.2.2.2.2.2.2.1.2.2.2.1 hj hS
theorem cat_sum {G : Nv} {st : List MV} (h : (st.map catv).sum ≤ 8) : ((st.map (rv G)).map fun v => v.category).sum ≤ 8 := by
  rw [List.map_map, show ((fun v => Value.category v) ∘ rv G) = catv from funext fun v => catv_rv G v]
  exact h
theorem ra_callV {l : Launch} {G : Nv} {Sh : Shp} {M : MD} {Q : Option MV → Mem → Prop} {pc : Nat} {lv : List (Option MV)} {st : List MV} {μ : Mem} {M' : MD} {Q' : Option MV → Mem → Prop} {as : List MV} {b : Nat} {idx n : Nat} (hs : Sp l G Sh M' (vR b :: as) μ Q') (hd : decode M.2.1 pc = .ok (.invokevirtual idx, 3)) (hg : MGood M' n) (hi : MInst M') (hb : Recv Sh b M'.1.cls) (hf : MFits M M') (hw : Cond.methodLink M.1.cls idx M'.1 ∈ TBL) (hn : as.length = n) (hst : (st.map catv).sum ≤ 8) (k : ∀ r μ', Q' r μ' → okr M'.2.2.2.1 r → RA l G Sh M Q (pc + 3) lv (r.toList ++ st) μ') : RA l G Sh M Q pc lv (as.reverse ++ vR b :: st) μ := by
  intro p e s m args below meth c H locs ls X hP hD hS hl hnn hm hol hos
  rw [show (as.reverse ++ vR b :: st).map (rv G) = (as.map (rv G)).reverse ++ .ref (G.2.1 b) :: st.map (rv G) by simp [rv]]
  refine ra_after (M' := M') (Q' := Q') (a := (((vR b :: as) : List MV).map (rv G)).toArray) k X hS hl hnn hol (fun v hv => hos v (List.mem_append_right _ (List.mem_cons_of_mem _ hv))) ?_
  exact va_runV (As := as.map (rv G)) (rest := st.map (rv G)) (n := n) ⟨X.1, X.2.1, X.2.2.1, X.2.2.2.2.2.1, X.2.2.2.2.2.2.1⟩ (hs (List.forall_mem_cons.mpr ⟨trivial, fun v hv => hos v (List.mem_append_left _ (List.mem_reverse.mpr hv))⟩) hm H.size) ⟨callB_of (R := rmM M) (Ts := wsM M) n X.2.2.2.2.2.2.1 (wsM_good M M' hg.1) rfl rfl rfl (X.2.2.2.2.2.2.1 _ (List.mem_cons_of_mem _ (hg.2.1))) (X.2.2.2.2.2.2.1 _ (List.mem_cons_of_mem _ (hw))) hg.2.2 hf, (X.2.2.2.2.2.2.1 _ (List.mem_cons_of_mem _ (hi.1))), (X.2.2.2.2.2.2.1 _ (List.mem_cons_of_mem _ (hi.2)))⟩ ⟨PcOf_blind, recv_mv hb X hP hS, pc_of (as := vR b :: as) X hP hD hS⟩ rfl (by simpa using hn) hl.1 rfl (lv_room (cat_sum hst)) hd ⟨Nat.zero_le _, Nat.zero_le _⟩
theorem ra_callVN {l : Launch} {G : Nv} {Sh : Shp} {M : MD} {Q : Option MV → Mem → Prop} {pc : Nat} {lv : List (Option MV)} {st : List MV} {μ : Mem} {M' : MD} {Q' : Option MV → Mem → Prop} {as : List MV} {b : Nat} {idx n : Nat} {host : String} (hs : Sp l G Sh M' (vR b :: as) μ Q') (hd : decode M.2.1 pc = .ok (.invokevirtual idx, 3)) (hg : MGood M' n) (hi : MInst M') (hb : Recv Sh b M'.1.cls) (hf : MFits M M') (hw : Cond.methodLinkNest M.1.cls idx M'.1 host ∈ tables_1) (hn : as.length = n) (hst : (st.map catv).sum ≤ 8) (k : ∀ r μ', Q' r μ' → okr M'.2.2.2.1 r → RA l G Sh M Q (pc + 3) lv (r.toList ++ st) μ') : RA l G Sh M Q pc lv (as.reverse ++ vR b :: st) μ := by
  intro p e s m args below meth c H locs ls X hP hD hS hl hnn hm hol hos
  rw [show (as.reverse ++ vR b :: st).map (rv G) = (as.map (rv G)).reverse ++ .ref (G.2.1 b) :: st.map (rv G) by simp [rv]]
  refine ra_after (M' := M') (Q' := Q') (a := (((vR b :: as) : List MV).map (rv G)).toArray) k X hS hl hnn hol (fun v hv => hos v (List.mem_append_right _ (List.mem_cons_of_mem _ hv))) ?_
  exact va_runVN (As := as.map (rv G)) (rest := st.map (rv G)) (n := n) ⟨X.1, X.2.1, X.2.2.1, X.2.2.2.2.2.1, X.2.2.2.2.2.2.1⟩ (hs (List.forall_mem_cons.mpr ⟨trivial, fun v hv => hos v (List.mem_append_left _ (List.mem_reverse.mpr hv))⟩) hm H.size) ⟨va_cnB (R := rmM M) (Ts := wsM M) n X.2.2.2.2.2.2.1 (wsM_good M M' hg.1) rfl rfl rfl (X.2.2.2.2.2.2.2.2.1.1 _ hw rfl) (X.2.2.2.2.2.2.1 _ (List.mem_cons_of_mem _ (hg.2.1))) hg.2.2 hf, (X.2.2.2.2.2.2.1 _ (List.mem_cons_of_mem _ (hi.1))), (X.2.2.2.2.2.2.1 _ (List.mem_cons_of_mem _ (hi.2)))⟩ ⟨PcOf_blind, recv_mv hb X hP hS, pc_of (as := vR b :: as) X hP hD hS⟩ rfl (by simpa using hn) hl.1 rfl (lv_room (cat_sum hst)) hd ⟨Nat.zero_le _, Nat.zero_le _⟩
theorem ra_callS {l : Launch} {G : Nv} {Sh : Shp} {M : MD} {Q : Option MV → Mem → Prop} {pc : Nat} {lv : List (Option MV)} {st : List MV} {μ : Mem} {M' : MD} {Q' : Option MV → Mem → Prop} {as : List MV} {idx n : Nat} (hs : Sp l G Sh M' as μ Q') (hd : decode M.2.1 pc = .ok (.invokestatic idx, 3)) (hg : MGood M' n) (hi : Cond.static M'.1 ∈ TBL) (hf : MFits M M') (hw : Cond.methodLink M.1.cls idx M'.1 ∈ TBL) (hn : as.length = n) (hst : (st.map catv).sum ≤ 8) (k : ∀ r μ', Q' r μ' → okr M'.2.2.2.1 r → RA l G Sh M Q (pc + 3) lv (r.toList ++ st) μ') : RA l G Sh M Q pc lv (as.reverse ++ st) μ := by
  intro p e s m args below meth c H locs ls X hP hD hS hl hnn hm hol hos
  rw [show (as.reverse ++ st).map (rv G) = (as.map (rv G)).reverse ++ st.map (rv G) by simp [rv]]
  refine ra_after (M' := M') (Q' := Q') (a := ((as : List MV).map (rv G)).toArray) k X hS hl hnn hol (fun v hv => hos v (List.mem_append_right _ hv)) ?_
  exact va_runS (As := as.map (rv G)) (rest := st.map (rv G)) (n := n) ⟨X.1, X.2.1, X.2.2.1, X.2.2.2.2.2.1, X.2.2.2.2.2.2.1⟩ (hs (fun v hv => hos v (List.mem_append_left _ (List.mem_reverse.mpr hv))) hm H.size) ⟨callB_of (R := rmM M) (Ts := wsM M) n X.2.2.2.2.2.2.1 (wsM_good M M' hg.1) rfl rfl rfl (X.2.2.2.2.2.2.1 _ (List.mem_cons_of_mem _ (hg.2.1))) (X.2.2.2.2.2.2.1 _ (List.mem_cons_of_mem _ (hw))) hg.2.2 hf, (X.2.2.2.2.2.2.1 _ (List.mem_cons_of_mem _ (hi)))⟩ ⟨PcOf_blind, pc_of (as := as) X hP hD hS⟩ rfl (by simpa using hn) hl.1 rfl (lv_room (cat_sum hst)) hd ⟨Nat.zero_le _, Nat.zero_le _⟩
theorem ra_callSN {l : Launch} {G : Nv} {Sh : Shp} {M : MD} {Q : Option MV → Mem → Prop} {pc : Nat} {lv : List (Option MV)} {st : List MV} {μ : Mem} {M' : MD} {Q' : Option MV → Mem → Prop} {as : List MV} {idx n : Nat} {host : String} (hs : Sp l G Sh M' as μ Q') (hd : decode M.2.1 pc = .ok (.invokestatic idx, 3)) (hg : MGood M' n) (hi : Cond.static M'.1 ∈ TBL) (hf : MFits M M') (hw : Cond.methodLinkNest M.1.cls idx M'.1 host ∈ tables_1) (hn : as.length = n) (hst : (st.map catv).sum ≤ 8) (k : ∀ r μ', Q' r μ' → okr M'.2.2.2.1 r → RA l G Sh M Q (pc + 3) lv (r.toList ++ st) μ') : RA l G Sh M Q pc lv (as.reverse ++ st) μ := by
  intro p e s m args below meth c H locs ls X hP hD hS hl hnn hm hol hos
  rw [show (as.reverse ++ st).map (rv G) = (as.map (rv G)).reverse ++ st.map (rv G) by simp [rv]]
  refine ra_after (M' := M') (Q' := Q') (a := ((as : List MV).map (rv G)).toArray) k X hS hl hnn hol (fun v hv => hos v (List.mem_append_right _ hv)) ?_
  exact va_runSN (As := as.map (rv G)) (rest := st.map (rv G)) (n := n) ⟨X.1, X.2.1, X.2.2.1, X.2.2.2.2.2.1, X.2.2.2.2.2.2.1⟩ (hs (fun v hv => hos v (List.mem_append_left _ (List.mem_reverse.mpr hv))) hm H.size) ⟨va_cnB (R := rmM M) (Ts := wsM M) n X.2.2.2.2.2.2.1 (wsM_good M M' hg.1) rfl rfl rfl (X.2.2.2.2.2.2.2.2.1.1 _ hw rfl) (X.2.2.2.2.2.2.1 _ (List.mem_cons_of_mem _ (hg.2.1))) hg.2.2 hf, (X.2.2.2.2.2.2.1 _ (List.mem_cons_of_mem _ (hi))), trivial⟩ ⟨PcOf_blind, pc_of (as := as) X hP hD hS⟩ rfl (by simpa using hn) hl.1 rfl (lv_room (cat_sum hst)) hd ⟨Nat.zero_le _, Nat.zero_le _⟩
/-- a method from its bytecode -/
def ent (vs : List MV) (n : Nat) : List (Option MV) := (vs.flatMap fun v => if catv v = 2 then [some v, none] else [some v]) ++ List.replicate (n - (vs.flatMap fun v => if catv v = 2 then [some v, none] else [some v]).length) none
theorem lvargs_at {G : Nv} : ∀ (vs : List MV) (o i : Nat) (v : MV), (vs.flatMap fun v => if catv v = 2 then [some v, none] else [some v])[i]? = some (some v) → (o + i, rv G v) ∈ lv_args o (vs.map (rv G))
  | [], o, i, v, h => by simp at h
  | w :: vs, o, i, v, h => by
    have hc := catv_rv G w
    simp only [List.flatMap_cons] at h
    simp only [List.map_cons, lv_args]
    by_cases hw : catv w = 2
    · simp only [hw, if_true] at h
      match i, h with
      | 0, h => simp at h; subst h; simp
      | 1, h => simp at h
      | i + 2, h =>
        simp at h
        have := lvargs_at (G := G) vs (o + 2) i v (by simpa using h)
        rw [hc, hw]
        refine List.mem_cons_of_mem _ ?_
        rw [show o + (i + 2) = o + 2 + i by omega]
        exact this
    · simp only [hw, if_false] at h
      have hw1 : catv w = 1 := by
        rcases w with x | x | x
        · rfl
        · exact absurd rfl hw
        · rfl
      match i, h with
      | 0, h => simp at h; subst h; simp
      | i + 1, h =>
        simp at h
        have := lvargs_at (G := G) vs (o + 1) i v (by simpa using h)
        rw [hc, hw1]
        refine List.mem_cons_of_mem _ ?_
        rw [show o + (i + 1) = o + 1 + i by omega]
        exact this
theorem ent_at {G : Nv} {vs : List MV} {n i : Nat} {v : MV} (h : (ent vs n)[i]? = some (some v)) : (i, rv G v) ∈ lv_args 0 (vs.map (rv G)) ∧ v ∈ vs := by
  unfold ent at h
  rw [List.getElem?_append] at h
  split at h
  · have := lvargs_at (G := G) vs 0 i v h
    rw [Nat.zero_add] at this
    refine ⟨this, ?_⟩
    have h2 := List.mem_of_getElem? h
    obtain ⟨w, hw, hx⟩ := List.mem_flatMap.mp h2
    split at hx
    · simp at hx; rw [hx]; exact hw
    · simp at hx; rw [hx]; exact hw
  · have h2 := List.mem_of_getElem? h
    have := List.eq_of_mem_replicate h2
    cases this
theorem sl_len {G : Nv} : ∀ vs : List MV, (lg_sl (vs.map (rv G))).length = (vs.flatMap fun v => if catv v = 2 then [some v, none] else [some v]).length
  | [] => rfl
  | w :: vs => by
    have hc := catv_rv G w
    have ih := sl_len (G := G) vs
    unfold lg_sl at ih ⊢
    simp only [List.map_cons, List.flatMap_cons, List.length_append, ih, hc]
    by_cases hw : catv w = 2 <;> simp [hw]
theorem wa_eq {G : Nv} {Sh : Shp} {μ : Mem} {sz : Nat} : ∀ q, va_A (wsOf G Sh μ) sz q ↔ WA G Sh sz q := fun q => by
  constructor
  · rintro (⟨k, e, h⟩ | h)
    · simp only [wsOf, List.getElem?_mapIdx] at h
      cases hk : Sh[k]? with
      | none => rw [hk] at h; cases h
      | some x =>
        rw [hk] at h
        cases h
        exact Or.inl ⟨k, (List.getElem?_eq_some_iff.mp hk).1, rfl⟩
    · exact Or.inr h
  · rintro (⟨k, h1, rfl⟩ | h)
    · exact Or.inl ⟨k, _, wsOf_at (List.getElem?_eq_getElem h1)⟩
    · exact Or.inr h
theorem sp_of {l : Launch} {G : Nv} {Sh : Shp} {M : MD} {as : List MV} {μ : Mem} {Q : Option MV → Mem → Prop} (hy : plainName M.1.cls = true) (hlen : (as.flatMap fun v => if catv v = 2 then [some v, none] else [some v]).length ≤ M.2.2.1)
    (h : RA l G Sh M Q 0 (ent as M.2.2.1) [] μ) : Sp l G Sh M as μ Q := by
  intro hok hm sz
  refine Met.ofW (cc := M.2.1) (maxL := M.2.2.1) (ret := M.2.2.2.1) (ws' := TBL) hy rfl ?_
  intro p e s m args below meth c s₁ B hml hv
  obtain ⟨rfl, hsz, hP, hK, hD0, hA⟩ := hv
  have hx := B.exec
  have hb := B.bytes
  have hr := B.returns
  have hts := atoms_spec (ws := wsM M) B.pre
  have hown : s.vm.findClass M.1.cls = some m.cls := findClass_of_methodNamed B.named
  have hlocks := B.notSynchronized
  subst hsz
  have hD : va_D (WA G Sh s.heap.size) (wsOf G Sh μ) := (hD0.self (sz := s.heap.size)).weaken (fun _ q _ h => (wa_eq _).mp h)
  have hl := lv_entry (as.map (rv G)) (n := M.2.2.1) (by rw [sl_len]; exact hlen)
  rw [lg_entry_eq]
  generalize (lg_sl (as.map (rv G)) ++ List.replicate (M.2.2.1 - (lg_sl (as.map (rv G))).length) Slot.unset).toArray = ls at hl ⊢
  have hl2 : lv_has ls M.2.2.1 (lvl G (ent as M.2.2.1)) := ⟨hl.1, hl.2.1, fun q hq => by
    obtain ⟨v, h1, h2⟩ := lvl_mem' hq
    rw [h2]
    exact hl.2.2 _ (ent_at h1).1⟩
  exact h p e s m _ below meth c s.heap [] ls ⟨hx, hb, hml, hr, hlocks, hown, hts, hK, hA, fun q hq => Or.inr hq⟩ hP hD va_S.rf hl2 (by unfold ent; rw [List.length_append, List.length_replicate]; omega) hm (fun i v hi => hok v (ent_at (G := G) hi).2) (fun v hv => by cases hv)
