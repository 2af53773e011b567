theorem rn_getW {l : Launch} {G : Nv} {M : MD} {mc ms : Nat} {ws0 : va_W} {Q : va_W → Prop} {pc pc' : Nat} {lv : List (Nat × Value)} {st : List Value} {k n : Nat} {q : Nat → Nat} {Sh : Shp} {μ : Mem} {idx ci j N a b : Nat} {C : String} {T : u_T} {ty : Nat → FieldType} {slots : List Nat} (hc : ClsOK ci C T N ty) (hd : decode M.2.1 pc = .ok (.getfield idx, 3)) (hp : pc + 3 = pc') (he : Sh[a]? = some (ci + 3, 0, slots)) (hs : slots[j]? = some (b + 3)) (hk : j < N) (hw : Cond.fieldLink M.1.cls idx C (T j).2.1 (T j).2.2.1 ∈ TBL) (kk : RN l G M mc ms ws0 Q pc' lv (.ref (q b) :: st) (wsOf (G.1, q, G.2.2) Sh μ) k n) : RN l G M mc ms ws0 Q pc lv (.ref (q a) :: st) (wsOf (G.1, q, G.2.2) Sh μ) k n :=
  rn_get (i0 := a) (v := .ref (q b)) hc hd hp (wsOf_obj he) hk hw (by rw [List.getElem?_mapIdx, hs]; rfl) kk
theorem rn_iastW {l : Launch} {G : Nv} {M : MD} {mc ms : Nat} {ws0 : va_W} {Q : va_W → Prop} {pc pc' : Nat} {lv : List (Nat × Value)} {st : List Value} {k n : Nat} {q : Nat → Nat} {Sh : Shp} {μ : Mem} {a N j : Nat} {i x : Int32} {y : Int} (hd : decode M.2.1 pc = .ok (.iastore, 1)) (hp : pc + 1 = pc') (he : Sh[a]? = some (0, N, [])) (hi : vp_in i N) (hj : i.toNatClampNeg = j) (hx : x = Int32.ofInt y) (kk : RN l G M mc ms ws0 Q pc' lv st (wsOf (G.1, q, G.2.2) Sh (mset μ a j y)) k n) : RN l G M mc ms ws0 Q pc lv (.int x :: .int i :: .ref (q a) :: st) (wsOf (G.1, q, G.2.2) Sh μ) k n := by
  subst hx
  refine rn_iast (i0 := a) hd hp (wsOf_arr he) hi ?_ kk
  refine wsOf_set he ?_ (fun b hb => mset_off hb)
  rw [hj]
  show _ = Sum.inl (G.2.2.1 0, N, Sum.inl (fun i => Int32.ofInt (mset μ a j y a i)))
  refine congrArg (fun f => (Sum.inl (G.2.2.1 0, N, Sum.inl f) : va_E)) (funext fun i => ?_)
  by_cases h : i = j
  · subst h
    simp [upd, mset]
  · simp [upd, mset, h]
def wsT (G : Nv) (o : Nat) (Sh : Shp) (μ : Mem) : va_W := Sh.mapIdx (fun k e => (G.2.1 (o + k), cellE G e (μ (o + k))))
theorem wsT_step {G : Nv} {o n : Nat} {Sh : Shp} {μ : Mem} {L L' : va_W} {e : She} {x : Nat × va_E} (h : L = wsT G o Sh μ) (hL : L ++ [x] = L') (hn : Sh.length = n) (hx : x = (G.2.1 (o + n), cellE G e (μ (o + n)))) : L' = wsT G o (Sh ++ [e]) μ := by
  subst hL; subst h; subst hx; subst hn
  simp [wsT, List.mapIdx_append]
theorem wsT_cons {G : Nv} {Sh : Shp} {μ : Mem} {e : She} {x : Nat × va_E} {L : va_W} (h : L = wsT G 1 Sh μ) (hx : x = (G.2.1 0, cellE G e (μ 0))) : x :: L = wsOf G (e :: Sh) μ := by
  subst h; subst hx
  simp only [wsOf, wsT, List.mapIdx_cons]
  refine congrArg (List.cons _) ?_
  congr 1
  funext k e
  rw [Nat.add_comm]
theorem aMem_eq : mset (mset (mset (mset zMem 24 0 (-4)) 24 1 (-4)) 24 2 (-4)) 24 3 (-4) = aMem := by
  funext k i
  unfold aMem lan zMem
  simp only [mset]
  grind
def qX9 (G : Nv) (h0 : Nat) (ws : va_W) : Prop := ∃ q : Nat → Nat, q 0 = h0 ∧ (∀ j, 90 ≤ j → q j = G.2.1 j) ∧ ws = wsOf (G.1, q, G.2.2) SM mMem
set_option maxHeartbeats 20000000 in
theorem c_X9 (l : Launch) (G : Nv) (h0 : Nat) : SpN l G mX9_init [.ref h0] [(h0, .inr (9, [.null, .null, .int 0, .null, .null, .null, .null, .null, .int 0, .null, .null, .null, .null, .null, .int 0, .int 0, .int 0, .null, .int 0, .int 0, .int 0, .int 0, .int 0, .int 0, .int 0, .null, .null, .null, .null, .null, .null, .int 0, .null, .null, .null, .null, .null, .null, .null, .int 0]))] 26 1907 (qX9 G h0) := by
  refine spn_of pn_X9 rfl rfl (Nat.le_of_ble_eq_true rfl) ?_
  refine rn_eq (ws' := ((h0, .inr (9, [.null, .null, .int 0, .null, .null, .null, .null, .null, .int 0, .null, .null, .null, .null, .null, .int 0, .int 0, .int 0, .null, .int 0, .int 0, .int 0, .int 0, .int 0, .int 0, .int 0, .null, .null, .null, .null, .null, .null, .int 0, .null, .null, .null, .null, .null, .null, .null, .int 0])) :: ([] : va_W))) (k' := 0) (n' := 0) rfl rfl rfl ?_
  refine rn_aload_n (pc' := 1) dX9_init_0 rfl rfl (List.mem_of_getElem? (i := 0) rfl) ?_
  refine rn_objinit (pc' := 4) dX9_init_1 rfl wc_98 wx_0 objcode (Nat.le_of_ble_eq_true rfl) (Nat.le_of_ble_eq_true rfl) ?_
  refine rn_aload_n (pc' := 5) dX9_init_4 rfl rfl (List.mem_of_getElem? (i := 0) rfl) ?_
  refine rn_sipush (v := 555) (pc' := 8) dX9_init_5 rfl (by decide) ?_
  refine rn_arrI (N := 555) (pc' := 10) dX9_init_8 rfl wx_1 (by decide) rfl (Nat.le_of_ble_eq_true rfl) (Nat.le_of_ble_eq_true rfl) (Nat.le_of_ble_eq_true rfl) (fun q1 => ?_)
  refine rn_eq (ws' := ((h0, .inr (9, [.null, .null, .int 0, .null, .null, .null, .null, .null, .int 0, .null, .null, .null, .null, .null, .int 0, .int 0, .int 0, .null, .int 0, .int 0, .int 0, .int 0, .int 0, .int 0, .int 0, .null, .null, .null, .null, .null, .null, .int 0, .null, .null, .null, .null, .null, .null, .null, .int 0])) :: (([] : va_W) ++ [(q1, .inl (G.2.2.1 0, 555, .inl (fun _ => 0)))]))) (k' := 1) (n' := 555) rfl rfl rfl ?_
  generalize hLL1 : (([] : va_W) ++ [(q1, .inl (G.2.2.1 0, 555, .inl (fun _ => 0)))]) = LL1
  refine rn_putF (j := 0) (i0 := 0) (ws' := ((h0, .inr (9, [.ref q1, .null, .int 0, .null, .null, .null, .null, .null, .int 0, .null, .null, .null, .null, .null, .int 0, .int 0, .int 0, .null, .int 0, .int 0, .int 0, .int 0, .int 0, .int 0, .int 0, .null, .null, .null, .null, .null, .null, .int 0, .null, .null, .null, .null, .null, .null, .null, .int 0])) :: LL1)) (pc' := 13) cls_X9 dX9_init_10 rfl rfl (by decide) wc_99 rfl rfl rfl rfl (Nat.le_of_ble_eq_true rfl) rfl ?_
  refine rn_aload_n (pc' := 14) dX9_init_13 rfl rfl (List.mem_of_getElem? (i := 0) rfl) ?_
  refine rn_iconst (v := 2) (pc' := 15) dX9_init_14 rfl (by decide) ?_
  refine rn_arrZ (N := 2) (pc' := 17) dX9_init_15 rfl wx_23 (by decide) rfl (Nat.le_of_ble_eq_true rfl) (Nat.le_of_ble_eq_true rfl) (Nat.le_of_ble_eq_true rfl) (fun q2 => ?_)
  refine rn_eq (ws' := ((h0, .inr (9, [.ref q1, .null, .int 0, .null, .null, .null, .null, .null, .int 0, .null, .null, .null, .null, .null, .int 0, .int 0, .int 0, .null, .int 0, .int 0, .int 0, .int 0, .int 0, .int 0, .int 0, .null, .null, .null, .null, .null, .null, .int 0, .null, .null, .null, .null, .null, .null, .null, .int 0])) :: (LL1 ++ [(q2, .inl (G.2.2.1 2, 2, .inl (fun _ => 0)))]))) (k' := 2) (n' := 557) rfl rfl rfl ?_
  generalize hLL2 : (LL1 ++ [(q2, .inl (G.2.2.1 2, 2, .inl (fun _ => 0)))]) = LL2
  refine rn_putF (j := 1) (i0 := 0) (ws' := ((h0, .inr (9, [.ref q1, .ref q2, .int 0, .null, .null, .null, .null, .null, .int 0, .null, .null, .null, .null, .null, .int 0, .int 0, .int 0, .null, .int 0, .int 0, .int 0, .int 0, .int 0, .int 0, .int 0, .null, .null, .null, .null, .null, .null, .int 0, .null, .null, .null, .null, .null, .null, .null, .int 0])) :: LL2)) (pc' := 20) cls_X9 dX9_init_17 rfl rfl (by decide) wc_100 rfl rfl rfl rfl (Nat.le_of_ble_eq_true rfl) rfl ?_
  refine rn_aload_n (pc' := 21) dX9_init_20 rfl rfl (List.mem_of_getElem? (i := 0) rfl) ?_
  refine rn_bipush (v := 21) (pc' := 23) dX9_init_21 rfl (by decide) ?_
  refine rn_arrZ (N := 21) (pc' := 25) dX9_init_23 rfl wx_23 (by decide) rfl (Nat.le_of_ble_eq_true rfl) (Nat.le_of_ble_eq_true rfl) (Nat.le_of_ble_eq_true rfl) (fun q3 => ?_)
  refine rn_eq (ws' := ((h0, .inr (9, [.ref q1, .ref q2, .int 0, .null, .null, .null, .null, .null, .int 0, .null, .null, .null, .null, .null, .int 0, .int 0, .int 0, .null, .int 0, .int 0, .int 0, .int 0, .int 0, .int 0, .int 0, .null, .null, .null, .null, .null, .null, .int 0, .null, .null, .null, .null, .null, .null, .null, .int 0])) :: (LL2 ++ [(q3, .inl (G.2.2.1 2, 21, .inl (fun _ => 0)))]))) (k' := 3) (n' := 578) rfl rfl rfl ?_
  generalize hLL3 : (LL2 ++ [(q3, .inl (G.2.2.1 2, 21, .inl (fun _ => 0)))]) = LL3
  refine rn_putF (j := 3) (i0 := 0) (ws' := ((h0, .inr (9, [.ref q1, .ref q2, .int 0, .ref q3, .null, .null, .null, .null, .int 0, .null, .null, .null, .null, .null, .int 0, .int 0, .int 0, .null, .int 0, .int 0, .int 0, .int 0, .int 0, .int 0, .int 0, .null, .null, .null, .null, .null, .null, .int 0, .null, .null, .null, .null, .null, .null, .null, .int 0])) :: LL3)) (pc' := 28) cls_X9 dX9_init_25 rfl rfl (by decide) wc_101 rfl rfl rfl rfl (Nat.le_of_ble_eq_true rfl) rfl ?_
  refine rn_aload_n (pc' := 29) dX9_init_28 rfl rfl (List.mem_of_getElem? (i := 0) rfl) ?_
  refine rn_bipush (v := 21) (pc' := 31) dX9_init_29 rfl (by decide) ?_
  refine rn_arrI (N := 21) (pc' := 33) dX9_init_31 rfl wx_1 (by decide) rfl (Nat.le_of_ble_eq_true rfl) (Nat.le_of_ble_eq_true rfl) (Nat.le_of_ble_eq_true rfl) (fun q4 => ?_)
  refine rn_eq (ws' := ((h0, .inr (9, [.ref q1, .ref q2, .int 0, .ref q3, .null, .null, .null, .null, .int 0, .null, .null, .null, .null, .null, .int 0, .int 0, .int 0, .null, .int 0, .int 0, .int 0, .int 0, .int 0, .int 0, .int 0, .null, .null, .null, .null, .null, .null, .int 0, .null, .null, .null, .null, .null, .null, .null, .int 0])) :: (LL3 ++ [(q4, .inl (G.2.2.1 0, 21, .inl (fun _ => 0)))]))) (k' := 4) (n' := 599) rfl rfl rfl ?_
  generalize hLL4 : (LL3 ++ [(q4, .inl (G.2.2.1 0, 21, .inl (fun _ => 0)))]) = LL4
  refine rn_putF (j := 4) (i0 := 0) (ws' := ((h0, .inr (9, [.ref q1, .ref q2, .int 0, .ref q3, .ref q4, .null, .null, .null, .int 0, .null, .null, .null, .null, .null, .int 0, .int 0, .int 0, .null, .int 0, .int 0, .int 0, .int 0, .int 0, .int 0, .int 0, .null, .null, .null, .null, .null, .null, .int 0, .null, .null, .null, .null, .null, .null, .null, .int 0])) :: LL4)) (pc' := 36) cls_X9 dX9_init_33 rfl rfl (by decide) wc_102 rfl rfl rfl rfl (Nat.le_of_ble_eq_true rfl) rfl ?_
  refine rn_aload_n (pc' := 37) dX9_init_36 rfl rfl (List.mem_of_getElem? (i := 0) rfl) ?_
  refine rn_bipush (v := 21) (pc' := 39) dX9_init_37 rfl (by decide) ?_
  refine rn_arrI (N := 21) (pc' := 41) dX9_init_39 rfl wx_1 (by decide) rfl (Nat.le_of_ble_eq_true rfl) (Nat.le_of_ble_eq_true rfl) (Nat.le_of_ble_eq_true rfl) (fun q5 => ?_)
  refine rn_eq (ws' := ((h0, .inr (9, [.ref q1, .ref q2, .int 0, .ref q3, .ref q4, .null, .null, .null, .int 0, .null, .null, .null, .null, .null, .int 0, .int 0, .int 0, .null, .int 0, .int 0, .int 0, .int 0, .int 0, .int 0, .int 0, .null, .null, .null, .null, .null, .null, .int 0, .null, .null, .null, .null, .null, .null, .null, .int 0])) :: (LL4 ++ [(q5, .inl (G.2.2.1 0, 21, .inl (fun _ => 0)))]))) (k' := 5) (n' := 620) rfl rfl rfl ?_
  generalize hLL5 : (LL4 ++ [(q5, .inl (G.2.2.1 0, 21, .inl (fun _ => 0)))]) = LL5
  refine rn_putF (j := 5) (i0 := 0) (ws' := ((h0, .inr (9, [.ref q1, .ref q2, .int 0, .ref q3, .ref q4, .ref q5, .null, .null, .int 0, .null, .null, .null, .null, .null, .int 0, .int 0, .int 0, .null, .int 0, .int 0, .int 0, .int 0, .int 0, .int 0, .int 0, .null, .null, .null, .null, .null, .null, .int 0, .null, .null, .null, .null, .null, .null, .null, .int 0])) :: LL5)) (pc' := 44) cls_X9 dX9_init_41 rfl rfl (by decide) wc_103 rfl rfl rfl rfl (Nat.le_of_ble_eq_true rfl) rfl ?_
  refine rn_aload_n (pc' := 45) dX9_init_44 rfl rfl (List.mem_of_getElem? (i := 0) rfl) ?_
  refine rn_bipush (v := 63) (pc' := 47) dX9_init_45 rfl (by decide) ?_
  refine rn_arrI (N := 63) (pc' := 49) dX9_init_47 rfl wx_1 (by decide) rfl (Nat.le_of_ble_eq_true rfl) (Nat.le_of_ble_eq_true rfl) (Nat.le_of_ble_eq_true rfl) (fun q6 => ?_)
  refine rn_eq (ws' := ((h0, .inr (9, [.ref q1, .ref q2, .int 0, .ref q3, .ref q4, .ref q5, .null, .null, .int 0, .null, .null, .null, .null, .null, .int 0, .int 0, .int 0, .null, .int 0, .int 0, .int 0, .int 0, .int 0, .int 0, .int 0, .null, .null, .null, .null, .null, .null, .int 0, .null, .null, .null, .null, .null, .null, .null, .int 0])) :: (LL5 ++ [(q6, .inl (G.2.2.1 0, 63, .inl (fun _ => 0)))]))) (k' := 6) (n' := 683) rfl rfl rfl ?_
  generalize hLL6 : (LL5 ++ [(q6, .inl (G.2.2.1 0, 63, .inl (fun _ => 0)))]) = LL6
  refine rn_putF (j := 6) (i0 := 0) (ws' := ((h0, .inr (9, [.ref q1, .ref q2, .int 0, .ref q3, .ref q4, .ref q5, .ref q6, .null, .int 0, .null, .null, .null, .null, .null, .int 0, .int 0, .int 0, .null, .int 0, .int 0, .int 0, .int 0, .int 0, .int 0, .int 0, .null, .null, .null, .null, .null, .null, .int 0, .null, .null, .null, .null, .null, .null, .null, .int 0])) :: LL6)) (pc' := 52) cls_X9 dX9_init_49 rfl rfl (by decide) wc_104 rfl rfl rfl rfl (Nat.le_of_ble_eq_true rfl) rfl ?_
  refine rn_aload_n (pc' := 53) dX9_init_52 rfl rfl (List.mem_of_getElem? (i := 0) rfl) ?_
  refine rn_sipush (v := 185) (pc' := 56) dX9_init_53 rfl (by decide) ?_
  refine rn_arrI (N := 185) (pc' := 58) dX9_init_56 rfl wx_1 (by decide) rfl (Nat.le_of_ble_eq_true rfl) (Nat.le_of_ble_eq_true rfl) (Nat.le_of_ble_eq_true rfl) (fun q7 => ?_)
  refine rn_eq (ws' := ((h0, .inr (9, [.ref q1, .ref q2, .int 0, .ref q3, .ref q4, .ref q5, .ref q6, .null, .int 0, .null, .null, .null, .null, .null, .int 0, .int 0, .int 0, .null, .int 0, .int 0, .int 0, .int 0, .int 0, .int 0, .int 0, .null, .null, .null, .null, .null, .null, .int 0, .null, .null, .null, .null, .null, .null, .null, .int 0])) :: (LL6 ++ [(q7, .inl (G.2.2.1 0, 185, .inl (fun _ => 0)))]))) (k' := 7) (n' := 868) rfl rfl rfl ?_
  generalize hLL7 : (LL6 ++ [(q7, .inl (G.2.2.1 0, 185, .inl (fun _ => 0)))]) = LL7
  refine rn_putF (j := 7) (i0 := 0) (ws' := ((h0, .inr (9, [.ref q1, .ref q2, .int 0, .ref q3, .ref q4, .ref q5, .ref q6, .ref q7, .int 0, .null, .null, .null, .null, .null, .int 0, .int 0, .int 0, .null, .int 0, .int 0, .int 0, .int 0, .int 0, .int 0, .int 0, .null, .null, .null, .null, .null, .null, .int 0, .null, .null, .null, .null, .null, .null, .null, .int 0])) :: LL7)) (pc' := 61) cls_X9 dX9_init_58 rfl rfl (by decide) wc_105 rfl rfl rfl rfl (Nat.le_of_ble_eq_true rfl) rfl ?_
  refine rn_aload_n (pc' := 62) dX9_init_61 rfl rfl (List.mem_of_getElem? (i := 0) rfl) ?_
  refine rn_bipush (v := 21) (pc' := 64) dX9_init_62 rfl (by decide) ?_
  refine rn_arrZ (N := 21) (pc' := 66) dX9_init_64 rfl wx_23 (by decide) rfl (Nat.le_of_ble_eq_true rfl) (Nat.le_of_ble_eq_true rfl) (Nat.le_of_ble_eq_true rfl) (fun q8 => ?_)
  refine rn_eq (ws' := ((h0, .inr (9, [.ref q1, .ref q2, .int 0, .ref q3, .ref q4, .ref q5, .ref q6, .ref q7, .int 0, .null, .null, .null, .null, .null, .int 0, .int 0, .int 0, .null, .int 0, .int 0, .int 0, .int 0, .int 0, .int 0, .int 0, .null, .null, .null, .null, .null, .null, .int 0, .null, .null, .null, .null, .null, .null, .null, .int 0])) :: (LL7 ++ [(q8, .inl (G.2.2.1 2, 21, .inl (fun _ => 0)))]))) (k' := 8) (n' := 889) rfl rfl rfl ?_
  generalize hLL8 : (LL7 ++ [(q8, .inl (G.2.2.1 2, 21, .inl (fun _ => 0)))]) = LL8
  refine rn_putF (j := 9) (i0 := 0) (ws' := ((h0, .inr (9, [.ref q1, .ref q2, .int 0, .ref q3, .ref q4, .ref q5, .ref q6, .ref q7, .int 0, .ref q8, .null, .null, .null, .null, .int 0, .int 0, .int 0, .null, .int 0, .int 0, .int 0, .int 0, .int 0, .int 0, .int 0, .null, .null, .null, .null, .null, .null, .int 0, .null, .null, .null, .null, .null, .null, .null, .int 0])) :: LL8)) (pc' := 69) cls_X9 dX9_init_66 rfl rfl (by decide) wc_106 rfl rfl rfl rfl (Nat.le_of_ble_eq_true rfl) rfl ?_
  refine rn_aload_n (pc' := 70) dX9_init_69 rfl rfl (List.mem_of_getElem? (i := 0) rfl) ?_
  refine rn_bipush (v := 21) (pc' := 72) dX9_init_70 rfl (by decide) ?_
  refine rn_arrI (N := 21) (pc' := 74) dX9_init_72 rfl wx_1 (by decide) rfl (Nat.le_of_ble_eq_true rfl) (Nat.le_of_ble_eq_true rfl) (Nat.le_of_ble_eq_true rfl) (fun q9 => ?_)
  refine rn_eq (ws' := ((h0, .inr (9, [.ref q1, .ref q2, .int 0, .ref q3, .ref q4, .ref q5, .ref q6, .ref q7, .int 0, .ref q8, .null, .null, .null, .null, .int 0, .int 0, .int 0, .null, .int 0, .int 0, .int 0, .int 0, .int 0, .int 0, .int 0, .null, .null, .null, .null, .null, .null, .int 0, .null, .null, .null, .null, .null, .null, .null, .int 0])) :: (LL8 ++ [(q9, .inl (G.2.2.1 0, 21, .inl (fun _ => 0)))]))) (k' := 9) (n' := 910) rfl rfl rfl ?_
  generalize hLL9 : (LL8 ++ [(q9, .inl (G.2.2.1 0, 21, .inl (fun _ => 0)))]) = LL9
  refine rn_putF (j := 10) (i0 := 0) (ws' := ((h0, .inr (9, [.ref q1, .ref q2, .int 0, .ref q3, .ref q4, .ref q5, .ref q6, .ref q7, .int 0, .ref q8, .ref q9, .null, .null, .null, .int 0, .int 0, .int 0, .null, .int 0, .int 0, .int 0, .int 0, .int 0, .int 0, .int 0, .null, .null, .null, .null, .null, .null, .int 0, .null, .null, .null, .null, .null, .null, .null, .int 0])) :: LL9)) (pc' := 77) cls_X9 dX9_init_74 rfl rfl (by decide) wc_107 rfl rfl rfl rfl (Nat.le_of_ble_eq_true rfl) rfl ?_
  refine rn_aload_n (pc' := 78) dX9_init_77 rfl rfl (List.mem_of_getElem? (i := 0) rfl) ?_
  refine rn_bipush (v := 21) (pc' := 80) dX9_init_78 rfl (by decide) ?_
  refine rn_arrI (N := 21) (pc' := 82) dX9_init_80 rfl wx_1 (by decide) rfl (Nat.le_of_ble_eq_true rfl) (Nat.le_of_ble_eq_true rfl) (Nat.le_of_ble_eq_true rfl) (fun q10 => ?_)
  refine rn_eq (ws' := ((h0, .inr (9, [.ref q1, .ref q2, .int 0, .ref q3, .ref q4, .ref q5, .ref q6, .ref q7, .int 0, .ref q8, .ref q9, .null, .null, .null, .int 0, .int 0, .int 0, .null, .int 0, .int 0, .int 0, .int 0, .int 0, .int 0, .int 0, .null, .null, .null, .null, .null, .null, .int 0, .null, .null, .null, .null, .null, .null, .null, .int 0])) :: (LL9 ++ [(q10, .inl (G.2.2.1 0, 21, .inl (fun _ => 0)))]))) (k' := 10) (n' := 931) rfl rfl rfl ?_
  generalize hLL10 : (LL9 ++ [(q10, .inl (G.2.2.1 0, 21, .inl (fun _ => 0)))]) = LL10
  refine rn_putF (j := 11) (i0 := 0) (ws' := ((h0, .inr (9, [.ref q1, .ref q2, .int 0, .ref q3, .ref q4, .ref q5, .ref q6, .ref q7, .int 0, .ref q8, .ref q9, .ref q10, .null, .null, .int 0, .int 0, .int 0, .null, .int 0, .int 0, .int 0, .int 0, .int 0, .int 0, .int 0, .null, .null, .null, .null, .null, .null, .int 0, .null, .null, .null, .null, .null, .null, .null, .int 0])) :: LL10)) (pc' := 85) cls_X9 dX9_init_82 rfl rfl (by decide) wc_108 rfl rfl rfl rfl (Nat.le_of_ble_eq_true rfl) rfl ?_
  refine rn_aload_n (pc' := 86) dX9_init_85 rfl rfl (List.mem_of_getElem? (i := 0) rfl) ?_
  refine rn_bipush (v := 63) (pc' := 88) dX9_init_86 rfl (by decide) ?_
  refine rn_arrI (N := 63) (pc' := 90) dX9_init_88 rfl wx_1 (by decide) rfl (Nat.le_of_ble_eq_true rfl) (Nat.le_of_ble_eq_true rfl) (Nat.le_of_ble_eq_true rfl) (fun q11 => ?_)
  refine rn_eq (ws' := ((h0, .inr (9, [.ref q1, .ref q2, .int 0, .ref q3, .ref q4, .ref q5, .ref q6, .ref q7, .int 0, .ref q8, .ref q9, .ref q10, .null, .null, .int 0, .int 0, .int 0, .null, .int 0, .int 0, .int 0, .int 0, .int 0, .int 0, .int 0, .null, .null, .null, .null, .null, .null, .int 0, .null, .null, .null, .null, .null, .null, .null, .int 0])) :: (LL10 ++ [(q11, .inl (G.2.2.1 0, 63, .inl (fun _ => 0)))]))) (k' := 11) (n' := 994) rfl rfl rfl ?_
  generalize hLL11 : (LL10 ++ [(q11, .inl (G.2.2.1 0, 63, .inl (fun _ => 0)))]) = LL11
  refine rn_putF (j := 12) (i0 := 0) (ws' := ((h0, .inr (9, [.ref q1, .ref q2, .int 0, .ref q3, .ref q4, .ref q5, .ref q6, .ref q7, .int 0, .ref q8, .ref q9, .ref q10, .ref q11, .null, .int 0, .int 0, .int 0, .null, .int 0, .int 0, .int 0, .int 0, .int 0, .int 0, .int 0, .null, .null, .null, .null, .null, .null, .int 0, .null, .null, .null, .null, .null, .null, .null, .int 0])) :: LL11)) (pc' := 93) cls_X9 dX9_init_90 rfl rfl (by decide) wc_109 rfl rfl rfl rfl (Nat.le_of_ble_eq_true rfl) rfl ?_
  refine rn_aload_n (pc' := 94) dX9_init_93 rfl rfl (List.mem_of_getElem? (i := 0) rfl) ?_
  refine rn_bipush (v := 63) (pc' := 96) dX9_init_94 rfl (by decide) ?_
  refine rn_arrZ (N := 63) (pc' := 98) dX9_init_96 rfl wx_23 (by decide) rfl (Nat.le_of_ble_eq_true rfl) (Nat.le_of_ble_eq_true rfl) (Nat.le_of_ble_eq_true rfl) (fun q12 => ?_)
  refine rn_eq (ws' := ((h0, .inr (9, [.ref q1, .ref q2, .int 0, .ref q3, .ref q4, .ref q5, .ref q6, .ref q7, .int 0, .ref q8, .ref q9, .ref q10, .ref q11, .null, .int 0, .int 0, .int 0, .null, .int 0, .int 0, .int 0, .int 0, .int 0, .int 0, .int 0, .null, .null, .null, .null, .null, .null, .int 0, .null, .null, .null, .null, .null, .null, .null, .int 0])) :: (LL11 ++ [(q12, .inl (G.2.2.1 2, 63, .inl (fun _ => 0)))]))) (k' := 12) (n' := 1057) rfl rfl rfl ?_
  generalize hLL12 : (LL11 ++ [(q12, .inl (G.2.2.1 2, 63, .inl (fun _ => 0)))]) = LL12
  refine rn_putF (j := 13) (i0 := 0) (ws' := ((h0, .inr (9, [.ref q1, .ref q2, .int 0, .ref q3, .ref q4, .ref q5, .ref q6, .ref q7, .int 0, .ref q8, .ref q9, .ref q10, .ref q11, .ref q12, .int 0, .int 0, .int 0, .null, .int 0, .int 0, .int 0, .int 0, .int 0, .int 0, .int 0, .null, .null, .null, .null, .null, .null, .int 0, .null, .null, .null, .null, .null, .null, .null, .int 0])) :: LL12)) (pc' := 101) cls_X9 dX9_init_98 rfl rfl (by decide) wc_110 rfl rfl rfl rfl (Nat.le_of_ble_eq_true rfl) rfl ?_
  refine rn_aload_n (pc' := 102) dX9_init_101 rfl rfl (List.mem_of_getElem? (i := 0) rfl) ?_
  refine rn_sipush (v := 400) (pc' := 105) dX9_init_102 rfl (by decide) ?_
  refine rn_arrI (N := 400) (pc' := 107) dX9_init_105 rfl wx_1 (by decide) rfl (Nat.le_of_ble_eq_true rfl) (Nat.le_of_ble_eq_true rfl) (Nat.le_of_ble_eq_true rfl) (fun q13 => ?_)
  refine rn_eq (ws' := ((h0, .inr (9, [.ref q1, .ref q2, .int 0, .ref q3, .ref q4, .ref q5, .ref q6, .ref q7, .int 0, .ref q8, .ref q9, .ref q10, .ref q11, .ref q12, .int 0, .int 0, .int 0, .null, .int 0, .int 0, .int 0, .int 0, .int 0, .int 0, .int 0, .null, .null, .null, .null, .null, .null, .int 0, .null, .null, .null, .null, .null, .null, .null, .int 0])) :: (LL12 ++ [(q13, .inl (G.2.2.1 0, 400, .inl (fun _ => 0)))]))) (k' := 13) (n' := 1457) rfl rfl rfl ?_
  generalize hLL13 : (LL12 ++ [(q13, .inl (G.2.2.1 0, 400, .inl (fun _ => 0)))]) = LL13
  refine rn_putF (j := 17) (i0 := 0) (ws' := ((h0, .inr (9, [.ref q1, .ref q2, .int 0, .ref q3, .ref q4, .ref q5, .ref q6, .ref q7, .int 0, .ref q8, .ref q9, .ref q10, .ref q11, .ref q12, .int 0, .int 0, .int 0, .ref q13, .int 0, .int 0, .int 0, .int 0, .int 0, .int 0, .int 0, .null, .null, .null, .null, .null, .null, .int 0, .null, .null, .null, .null, .null, .null, .null, .int 0])) :: LL13)) (pc' := 110) cls_X9 dX9_init_107 rfl rfl (by decide) wc_111 rfl rfl rfl rfl (Nat.le_of_ble_eq_true rfl) rfl ?_
  refine rn_aload_n (pc' := 111) dX9_init_110 rfl rfl (List.mem_of_getElem? (i := 0) rfl) ?_
  refine rn_iconst (v := 5) (pc' := 112) dX9_init_111 rfl (by decide) ?_
  refine rn_arrI (N := 5) (pc' := 114) dX9_init_112 rfl wx_1 (by decide) rfl (Nat.le_of_ble_eq_true rfl) (Nat.le_of_ble_eq_true rfl) (Nat.le_of_ble_eq_true rfl) (fun q14 => ?_)
  refine rn_eq (ws' := ((h0, .inr (9, [.ref q1, .ref q2, .int 0, .ref q3, .ref q4, .ref q5, .ref q6, .ref q7, .int 0, .ref q8, .ref q9, .ref q10, .ref q11, .ref q12, .int 0, .int 0, .int 0, .ref q13, .int 0, .int 0, .int 0, .int 0, .int 0, .int 0, .int 0, .null, .null, .null, .null, .null, .null, .int 0, .null, .null, .null, .null, .null, .null, .null, .int 0])) :: (LL13 ++ [(q14, .inl (G.2.2.1 0, 5, .inl (fun _ => 0)))]))) (k' := 14) (n' := 1462) rfl rfl rfl ?_
  generalize hLL14 : (LL13 ++ [(q14, .inl (G.2.2.1 0, 5, .inl (fun _ => 0)))]) = LL14
  refine rn_putF (j := 25) (i0 := 0) (ws' := ((h0, .inr (9, [.ref q1, .ref q2, .int 0, .ref q3, .ref q4, .ref q5, .ref q6, .ref q7, .int 0, .ref q8, .ref q9, .ref q10, .ref q11, .ref q12, .int 0, .int 0, .int 0, .ref q13, .int 0, .int 0, .int 0, .int 0, .int 0, .int 0, .int 0, .ref q14, .null, .null, .null, .null, .null, .int 0, .null, .null, .null, .null, .null, .null, .null, .int 0])) :: LL14)) (pc' := 117) cls_X9 dX9_init_114 rfl rfl (by decide) wc_112 rfl rfl rfl rfl (Nat.le_of_ble_eq_true rfl) rfl ?_
  refine rn_aload_n (pc' := 118) dX9_init_117 rfl rfl (List.mem_of_getElem? (i := 0) rfl) ?_
  refine rn_iconst (v := 5) (pc' := 119) dX9_init_118 rfl (by decide) ?_
  refine rn_arrI (N := 5) (pc' := 121) dX9_init_119 rfl wx_1 (by decide) rfl (Nat.le_of_ble_eq_true rfl) (Nat.le_of_ble_eq_true rfl) (Nat.le_of_ble_eq_true rfl) (fun q15 => ?_)
  refine rn_eq (ws' := ((h0, .inr (9, [.ref q1, .ref q2, .int 0, .ref q3, .ref q4, .ref q5, .ref q6, .ref q7, .int 0, .ref q8, .ref q9, .ref q10, .ref q11, .ref q12, .int 0, .int 0, .int 0, .ref q13, .int 0, .int 0, .int 0, .int 0, .int 0, .int 0, .int 0, .ref q14, .null, .null, .null, .null, .null, .int 0, .null, .null, .null, .null, .null, .null, .null, .int 0])) :: (LL14 ++ [(q15, .inl (G.2.2.1 0, 5, .inl (fun _ => 0)))]))) (k' := 15) (n' := 1467) rfl rfl rfl ?_
  generalize hLL15 : (LL14 ++ [(q15, .inl (G.2.2.1 0, 5, .inl (fun _ => 0)))]) = LL15
  refine rn_putF (j := 26) (i0 := 0) (ws' := ((h0, .inr (9, [.ref q1, .ref q2, .int 0, .ref q3, .ref q4, .ref q5, .ref q6, .ref q7, .int 0, .ref q8, .ref q9, .ref q10, .ref q11, .ref q12, .int 0, .int 0, .int 0, .ref q13, .int 0, .int 0, .int 0, .int 0, .int 0, .int 0, .int 0, .ref q14, .ref q15, .null, .null, .null, .null, .int 0, .null, .null, .null, .null, .null, .null, .null, .int 0])) :: LL15)) (pc' := 124) cls_X9 dX9_init_121 rfl rfl (by decide) wc_113 rfl rfl rfl rfl (Nat.le_of_ble_eq_true rfl) rfl ?_
  refine rn_aload_n (pc' := 125) dX9_init_124 rfl rfl (List.mem_of_getElem? (i := 0) rfl) ?_
  refine rn_iconst (v := 5) (pc' := 126) dX9_init_125 rfl (by decide) ?_
  refine rn_arrI (N := 5) (pc' := 128) dX9_init_126 rfl wx_1 (by decide) rfl (Nat.le_of_ble_eq_true rfl) (Nat.le_of_ble_eq_true rfl) (Nat.le_of_ble_eq_true rfl) (fun q16 => ?_)
  refine rn_eq (ws' := ((h0, .inr (9, [.ref q1, .ref q2, .int 0, .ref q3, .ref q4, .ref q5, .ref q6, .ref q7, .int 0, .ref q8, .ref q9, .ref q10, .ref q11, .ref q12, .int 0, .int 0, .int 0, .ref q13, .int 0, .int 0, .int 0, .int 0, .int 0, .int 0, .int 0, .ref q14, .ref q15, .null, .null, .null, .null, .int 0, .null, .null, .null, .null, .null, .null, .null, .int 0])) :: (LL15 ++ [(q16, .inl (G.2.2.1 0, 5, .inl (fun _ => 0)))]))) (k' := 16) (n' := 1472) rfl rfl rfl ?_
  generalize hLL16 : (LL15 ++ [(q16, .inl (G.2.2.1 0, 5, .inl (fun _ => 0)))]) = LL16
  refine rn_putF (j := 27) (i0 := 0) (ws' := ((h0, .inr (9, [.ref q1, .ref q2, .int 0, .ref q3, .ref q4, .ref q5, .ref q6, .ref q7, .int 0, .ref q8, .ref q9, .ref q10, .ref q11, .ref q12, .int 0, .int 0, .int 0, .ref q13, .int 0, .int 0, .int 0, .int 0, .int 0, .int 0, .int 0, .ref q14, .ref q15, .ref q16, .null, .null, .null, .int 0, .null, .null, .null, .null, .null, .null, .null, .int 0])) :: LL16)) (pc' := 131) cls_X9 dX9_init_128 rfl rfl (by decide) wc_114 rfl rfl rfl rfl (Nat.le_of_ble_eq_true rfl) rfl ?_
  refine rn_aload_n (pc' := 132) dX9_init_131 rfl rfl (List.mem_of_getElem? (i := 0) rfl) ?_
  refine rn_iconst (v := 5) (pc' := 133) dX9_init_132 rfl (by decide) ?_
  refine rn_arrI (N := 5) (pc' := 135) dX9_init_133 rfl wx_1 (by decide) rfl (Nat.le_of_ble_eq_true rfl) (Nat.le_of_ble_eq_true rfl) (Nat.le_of_ble_eq_true rfl) (fun q17 => ?_)
  refine rn_eq (ws' := ((h0, .inr (9, [.ref q1, .ref q2, .int 0, .ref q3, .ref q4, .ref q5, .ref q6, .ref q7, .int 0, .ref q8, .ref q9, .ref q10, .ref q11, .ref q12, .int 0, .int 0, .int 0, .ref q13, .int 0, .int 0, .int 0, .int 0, .int 0, .int 0, .int 0, .ref q14, .ref q15, .ref q16, .null, .null, .null, .int 0, .null, .null, .null, .null, .null, .null, .null, .int 0])) :: (LL16 ++ [(q17, .inl (G.2.2.1 0, 5, .inl (fun _ => 0)))]))) (k' := 17) (n' := 1477) rfl rfl rfl ?_
  generalize hLL17 : (LL16 ++ [(q17, .inl (G.2.2.1 0, 5, .inl (fun _ => 0)))]) = LL17
  refine rn_putF (j := 28) (i0 := 0) (ws' := ((h0, .inr (9, [.ref q1, .ref q2, .int 0, .ref q3, .ref q4, .ref q5, .ref q6, .ref q7, .int 0, .ref q8, .ref q9, .ref q10, .ref q11, .ref q12, .int 0, .int 0, .int 0, .ref q13, .int 0, .int 0, .int 0, .int 0, .int 0, .int 0, .int 0, .ref q14, .ref q15, .ref q16, .ref q17, .null, .null, .int 0, .null, .null, .null, .null, .null, .null, .null, .int 0])) :: LL17)) (pc' := 138) cls_X9 dX9_init_135 rfl rfl (by decide) wc_115 rfl rfl rfl rfl (Nat.le_of_ble_eq_true rfl) rfl ?_
  refine rn_aload_n (pc' := 139) dX9_init_138 rfl rfl (List.mem_of_getElem? (i := 0) rfl) ?_
  refine rn_bipush (v := 63) (pc' := 141) dX9_init_139 rfl (by decide) ?_
  refine rn_arrI (N := 63) (pc' := 143) dX9_init_141 rfl wx_1 (by decide) rfl (Nat.le_of_ble_eq_true rfl) (Nat.le_of_ble_eq_true rfl) (Nat.le_of_ble_eq_true rfl) (fun q18 => ?_)
  refine rn_eq (ws' := ((h0, .inr (9, [.ref q1, .ref q2, .int 0, .ref q3, .ref q4, .ref q5, .ref q6, .ref q7, .int 0, .ref q8, .ref q9, .ref q10, .ref q11, .ref q12, .int 0, .int 0, .int 0, .ref q13, .int 0, .int 0, .int 0, .int 0, .int 0, .int 0, .int 0, .ref q14, .ref q15, .ref q16, .ref q17, .null, .null, .int 0, .null, .null, .null, .null, .null, .null, .null, .int 0])) :: (LL17 ++ [(q18, .inl (G.2.2.1 0, 63, .inl (fun _ => 0)))]))) (k' := 18) (n' := 1540) rfl rfl rfl ?_
  generalize hLL18 : (LL17 ++ [(q18, .inl (G.2.2.1 0, 63, .inl (fun _ => 0)))]) = LL18
  refine rn_putF (j := 29) (i0 := 0) (ws' := ((h0, .inr (9, [.ref q1, .ref q2, .int 0, .ref q3, .ref q4, .ref q5, .ref q6, .ref q7, .int 0, .ref q8, .ref q9, .ref q10, .ref q11, .ref q12, .int 0, .int 0, .int 0, .ref q13, .int 0, .int 0, .int 0, .int 0, .int 0, .int 0, .int 0, .ref q14, .ref q15, .ref q16, .ref q17, .ref q18, .null, .int 0, .null, .null, .null, .null, .null, .null, .null, .int 0])) :: LL18)) (pc' := 146) cls_X9 dX9_init_143 rfl rfl (by decide) wc_116 rfl rfl rfl rfl (Nat.le_of_ble_eq_true rfl) rfl ?_
  refine rn_aload_n (pc' := 147) dX9_init_146 rfl rfl (List.mem_of_getElem? (i := 0) rfl) ?_
  refine rn_iconst (v := 5) (pc' := 148) dX9_init_147 rfl (by decide) ?_
  refine rn_arrI (N := 5) (pc' := 150) dX9_init_148 rfl wx_1 (by decide) rfl (Nat.le_of_ble_eq_true rfl) (Nat.le_of_ble_eq_true rfl) (Nat.le_of_ble_eq_true rfl) (fun q19 => ?_)
  refine rn_eq (ws' := ((h0, .inr (9, [.ref q1, .ref q2, .int 0, .ref q3, .ref q4, .ref q5, .ref q6, .ref q7, .int 0, .ref q8, .ref q9, .ref q10, .ref q11, .ref q12, .int 0, .int 0, .int 0, .ref q13, .int 0, .int 0, .int 0, .int 0, .int 0, .int 0, .int 0, .ref q14, .ref q15, .ref q16, .ref q17, .ref q18, .null, .int 0, .null, .null, .null, .null, .null, .null, .null, .int 0])) :: (LL18 ++ [(q19, .inl (G.2.2.1 0, 5, .inl (fun _ => 0)))]))) (k' := 19) (n' := 1545) rfl rfl rfl ?_
  generalize hLL19 : (LL18 ++ [(q19, .inl (G.2.2.1 0, 5, .inl (fun _ => 0)))]) = LL19
  refine rn_putF (j := 30) (i0 := 0) (ws' := ((h0, .inr (9, [.ref q1, .ref q2, .int 0, .ref q3, .ref q4, .ref q5, .ref q6, .ref q7, .int 0, .ref q8, .ref q9, .ref q10, .ref q11, .ref q12, .int 0, .int 0, .int 0, .ref q13, .int 0, .int 0, .int 0, .int 0, .int 0, .int 0, .int 0, .ref q14, .ref q15, .ref q16, .ref q17, .ref q18, .ref q19, .int 0, .null, .null, .null, .null, .null, .null, .null, .int 0])) :: LL19)) (pc' := 153) cls_X9 dX9_init_150 rfl rfl (by decide) wc_117 rfl rfl rfl rfl (Nat.le_of_ble_eq_true rfl) rfl ?_
  refine rn_aload_n (pc' := 154) dX9_init_153 rfl rfl (List.mem_of_getElem? (i := 0) rfl) ?_
  refine rn_iconst (v := 5) (pc' := 155) dX9_init_154 rfl (by decide) ?_
  refine rn_arrI (N := 5) (pc' := 157) dX9_init_155 rfl wx_1 (by decide) rfl (Nat.le_of_ble_eq_true rfl) (Nat.le_of_ble_eq_true rfl) (Nat.le_of_ble_eq_true rfl) (fun q20 => ?_)
  refine rn_eq (ws' := ((h0, .inr (9, [.ref q1, .ref q2, .int 0, .ref q3, .ref q4, .ref q5, .ref q6, .ref q7, .int 0, .ref q8, .ref q9, .ref q10, .ref q11, .ref q12, .int 0, .int 0, .int 0, .ref q13, .int 0, .int 0, .int 0, .int 0, .int 0, .int 0, .int 0, .ref q14, .ref q15, .ref q16, .ref q17, .ref q18, .ref q19, .int 0, .null, .null, .null, .null, .null, .null, .null, .int 0])) :: (LL19 ++ [(q20, .inl (G.2.2.1 0, 5, .inl (fun _ => 0)))]))) (k' := 20) (n' := 1550) rfl rfl rfl ?_
  generalize hLL20 : (LL19 ++ [(q20, .inl (G.2.2.1 0, 5, .inl (fun _ => 0)))]) = LL20
  refine rn_putF (j := 32) (i0 := 0) (ws' := ((h0, .inr (9, [.ref q1, .ref q2, .int 0, .ref q3, .ref q4, .ref q5, .ref q6, .ref q7, .int 0, .ref q8, .ref q9, .ref q10, .ref q11, .ref q12, .int 0, .int 0, .int 0, .ref q13, .int 0, .int 0, .int 0, .int 0, .int 0, .int 0, .int 0, .ref q14, .ref q15, .ref q16, .ref q17, .ref q18, .ref q19, .int 0, .ref q20, .null, .null, .null, .null, .null, .null, .int 0])) :: LL20)) (pc' := 160) cls_X9 dX9_init_157 rfl rfl (by decide) wc_118 rfl rfl rfl rfl (Nat.le_of_ble_eq_true rfl) rfl ?_
  refine rn_aload_n (pc' := 161) dX9_init_160 rfl rfl (List.mem_of_getElem? (i := 0) rfl) ?_
  refine rn_bipush (v := 63) (pc' := 163) dX9_init_161 rfl (by decide) ?_
  refine rn_arrI (N := 63) (pc' := 165) dX9_init_163 rfl wx_1 (by decide) rfl (Nat.le_of_ble_eq_true rfl) (Nat.le_of_ble_eq_true rfl) (Nat.le_of_ble_eq_true rfl) (fun q21 => ?_)
  refine rn_eq (ws' := ((h0, .inr (9, [.ref q1, .ref q2, .int 0, .ref q3, .ref q4, .ref q5, .ref q6, .ref q7, .int 0, .ref q8, .ref q9, .ref q10, .ref q11, .ref q12, .int 0, .int 0, .int 0, .ref q13, .int 0, .int 0, .int 0, .int 0, .int 0, .int 0, .int 0, .ref q14, .ref q15, .ref q16, .ref q17, .ref q18, .ref q19, .int 0, .ref q20, .null, .null, .null, .null, .null, .null, .int 0])) :: (LL20 ++ [(q21, .inl (G.2.2.1 0, 63, .inl (fun _ => 0)))]))) (k' := 21) (n' := 1613) rfl rfl rfl ?_
  generalize hLL21 : (LL20 ++ [(q21, .inl (G.2.2.1 0, 63, .inl (fun _ => 0)))]) = LL21
  refine rn_putF (j := 33) (i0 := 0) (ws' := ((h0, .inr (9, [.ref q1, .ref q2, .int 0, .ref q3, .ref q4, .ref q5, .ref q6, .ref q7, .int 0, .ref q8, .ref q9, .ref q10, .ref q11, .ref q12, .int 0, .int 0, .int 0, .ref q13, .int 0, .int 0, .int 0, .int 0, .int 0, .int 0, .int 0, .ref q14, .ref q15, .ref q16, .ref q17, .ref q18, .ref q19, .int 0, .ref q20, .ref q21, .null, .null, .null, .null, .null, .int 0])) :: LL21)) (pc' := 168) cls_X9 dX9_init_165 rfl rfl (by decide) wc_119 rfl rfl rfl rfl (Nat.le_of_ble_eq_true rfl) rfl ?_
  refine rn_aload_n (pc' := 169) dX9_init_168 rfl rfl (List.mem_of_getElem? (i := 0) rfl) ?_
  refine rn_bipush (v := 63) (pc' := 171) dX9_init_169 rfl (by decide) ?_
  refine rn_arrI (N := 63) (pc' := 173) dX9_init_171 rfl wx_1 (by decide) rfl (Nat.le_of_ble_eq_true rfl) (Nat.le_of_ble_eq_true rfl) (Nat.le_of_ble_eq_true rfl) (fun q22 => ?_)
  refine rn_eq (ws' := ((h0, .inr (9, [.ref q1, .ref q2, .int 0, .ref q3, .ref q4, .ref q5, .ref q6, .ref q7, .int 0, .ref q8, .ref q9, .ref q10, .ref q11, .ref q12, .int 0, .int 0, .int 0, .ref q13, .int 0, .int 0, .int 0, .int 0, .int 0, .int 0, .int 0, .ref q14, .ref q15, .ref q16, .ref q17, .ref q18, .ref q19, .int 0, .ref q20, .ref q21, .null, .null, .null, .null, .null, .int 0])) :: (LL21 ++ [(q22, .inl (G.2.2.1 0, 63, .inl (fun _ => 0)))]))) (k' := 22) (n' := 1676) rfl rfl rfl ?_
  generalize hLL22 : (LL21 ++ [(q22, .inl (G.2.2.1 0, 63, .inl (fun _ => 0)))]) = LL22
  refine rn_putF (j := 34) (i0 := 0) (ws' := ((h0, .inr (9, [.ref q1, .ref q2, .int 0, .ref q3, .ref q4, .ref q5, .ref q6, .ref q7, .int 0, .ref q8, .ref q9, .ref q10, .ref q11, .ref q12, .int 0, .int 0, .int 0, .ref q13, .int 0, .int 0, .int 0, .int 0, .int 0, .int 0, .int 0, .ref q14, .ref q15, .ref q16, .ref q17, .ref q18, .ref q19, .int 0, .ref q20, .ref q21, .ref q22, .null, .null, .null, .null, .int 0])) :: LL22)) (pc' := 176) cls_X9 dX9_init_173 rfl rfl (by decide) wc_120 rfl rfl rfl rfl (Nat.le_of_ble_eq_true rfl) rfl ?_
  refine rn_aload_n (pc' := 177) dX9_init_176 rfl rfl (List.mem_of_getElem? (i := 0) rfl) ?_
  refine rn_bipush (v := 63) (pc' := 179) dX9_init_177 rfl (by decide) ?_
  refine rn_arrZ (N := 63) (pc' := 181) dX9_init_179 rfl wx_23 (by decide) rfl (Nat.le_of_ble_eq_true rfl) (Nat.le_of_ble_eq_true rfl) (Nat.le_of_ble_eq_true rfl) (fun q23 => ?_)
  refine rn_eq (ws' := ((h0, .inr (9, [.ref q1, .ref q2, .int 0, .ref q3, .ref q4, .ref q5, .ref q6, .ref q7, .int 0, .ref q8, .ref q9, .ref q10, .ref q11, .ref q12, .int 0, .int 0, .int 0, .ref q13, .int 0, .int 0, .int 0, .int 0, .int 0, .int 0, .int 0, .ref q14, .ref q15, .ref q16, .ref q17, .ref q18, .ref q19, .int 0, .ref q20, .ref q21, .ref q22, .null, .null, .null, .null, .int 0])) :: (LL22 ++ [(q23, .inl (G.2.2.1 2, 63, .inl (fun _ => 0)))]))) (k' := 23) (n' := 1739) rfl rfl rfl ?_
  generalize hLL23 : (LL22 ++ [(q23, .inl (G.2.2.1 2, 63, .inl (fun _ => 0)))]) = LL23
  refine rn_putF (j := 35) (i0 := 0) (ws' := ((h0, .inr (9, [.ref q1, .ref q2, .int 0, .ref q3, .ref q4, .ref q5, .ref q6, .ref q7, .int 0, .ref q8, .ref q9, .ref q10, .ref q11, .ref q12, .int 0, .int 0, .int 0, .ref q13, .int 0, .int 0, .int 0, .int 0, .int 0, .int 0, .int 0, .ref q14, .ref q15, .ref q16, .ref q17, .ref q18, .ref q19, .int 0, .ref q20, .ref q21, .ref q22, .ref q23, .null, .null, .null, .int 0])) :: LL23)) (pc' := 184) cls_X9 dX9_init_181 rfl rfl (by decide) wc_121 rfl rfl rfl rfl (Nat.le_of_ble_eq_true rfl) rfl ?_
  refine rn_aload_n (pc' := 185) dX9_init_184 rfl rfl (List.mem_of_getElem? (i := 0) rfl) ?_
  refine rn_iconst (v := 4) (pc' := 186) dX9_init_185 rfl (by decide) ?_
  refine rn_arrI (N := 4) (pc' := 188) dX9_init_186 rfl wx_1 (by decide) rfl (Nat.le_of_ble_eq_true rfl) (Nat.le_of_ble_eq_true rfl) (Nat.le_of_ble_eq_true rfl) (fun q24 => ?_)
  refine rn_eq (ws' := ((h0, .inr (9, [.ref q1, .ref q2, .int 0, .ref q3, .ref q4, .ref q5, .ref q6, .ref q7, .int 0, .ref q8, .ref q9, .ref q10, .ref q11, .ref q12, .int 0, .int 0, .int 0, .ref q13, .int 0, .int 0, .int 0, .int 0, .int 0, .int 0, .int 0, .ref q14, .ref q15, .ref q16, .ref q17, .ref q18, .ref q19, .int 0, .ref q20, .ref q21, .ref q22, .ref q23, .null, .null, .null, .int 0])) :: (LL23 ++ [(q24, .inl (G.2.2.1 0, 4, .inl (fun _ => 0)))]))) (k' := 24) (n' := 1743) rfl rfl rfl ?_
  generalize hLL24 : (LL23 ++ [(q24, .inl (G.2.2.1 0, 4, .inl (fun _ => 0)))]) = LL24
  refine rn_putF (j := 36) (i0 := 0) (ws' := ((h0, .inr (9, [.ref q1, .ref q2, .int 0, .ref q3, .ref q4, .ref q5, .ref q6, .ref q7, .int 0, .ref q8, .ref q9, .ref q10, .ref q11, .ref q12, .int 0, .int 0, .int 0, .ref q13, .int 0, .int 0, .int 0, .int 0, .int 0, .int 0, .int 0, .ref q14, .ref q15, .ref q16, .ref q17, .ref q18, .ref q19, .int 0, .ref q20, .ref q21, .ref q22, .ref q23, .ref q24, .null, .null, .int 0])) :: LL24)) (pc' := 191) cls_X9 dX9_init_188 rfl rfl (by decide) wc_122 rfl rfl rfl rfl (Nat.le_of_ble_eq_true rfl) rfl ?_
  refine rn_aload_n (pc' := 192) dX9_init_191 rfl rfl (List.mem_of_getElem? (i := 0) rfl) ?_
  refine rn_iconst (v := 4) (pc' := 193) dX9_init_192 rfl (by decide) ?_
  refine rn_arrI (N := 4) (pc' := 195) dX9_init_193 rfl wx_1 (by decide) rfl (Nat.le_of_ble_eq_true rfl) (Nat.le_of_ble_eq_true rfl) (Nat.le_of_ble_eq_true rfl) (fun q25 => ?_)
  refine rn_eq (ws' := ((h0, .inr (9, [.ref q1, .ref q2, .int 0, .ref q3, .ref q4, .ref q5, .ref q6, .ref q7, .int 0, .ref q8, .ref q9, .ref q10, .ref q11, .ref q12, .int 0, .int 0, .int 0, .ref q13, .int 0, .int 0, .int 0, .int 0, .int 0, .int 0, .int 0, .ref q14, .ref q15, .ref q16, .ref q17, .ref q18, .ref q19, .int 0, .ref q20, .ref q21, .ref q22, .ref q23, .ref q24, .null, .null, .int 0])) :: (LL24 ++ [(q25, .inl (G.2.2.1 0, 4, .inl (fun _ => 0)))]))) (k' := 25) (n' := 1747) rfl rfl rfl ?_
  generalize hLL25 : (LL24 ++ [(q25, .inl (G.2.2.1 0, 4, .inl (fun _ => 0)))]) = LL25
  refine rn_putF (j := 37) (i0 := 0) (ws' := ((h0, .inr (9, [.ref q1, .ref q2, .int 0, .ref q3, .ref q4, .ref q5, .ref q6, .ref q7, .int 0, .ref q8, .ref q9, .ref q10, .ref q11, .ref q12, .int 0, .int 0, .int 0, .ref q13, .int 0, .int 0, .int 0, .int 0, .int 0, .int 0, .int 0, .ref q14, .ref q15, .ref q16, .ref q17, .ref q18, .ref q19, .int 0, .ref q20, .ref q21, .ref q22, .ref q23, .ref q24, .ref q25, .null, .int 0])) :: LL25)) (pc' := 198) cls_X9 dX9_init_195 rfl rfl (by decide) wc_123 rfl rfl rfl rfl (Nat.le_of_ble_eq_true rfl) rfl ?_
  refine rn_aload_n (pc' := 199) dX9_init_198 rfl rfl (List.mem_of_getElem? (i := 0) rfl) ?_
  refine rn_sipush (v := 160) (pc' := 202) dX9_init_199 rfl (by decide) ?_
  refine rn_arrI (N := 160) (pc' := 204) dX9_init_202 rfl wx_1 (by decide) rfl (Nat.le_of_ble_eq_true rfl) (Nat.le_of_ble_eq_true rfl) (Nat.le_of_ble_eq_true rfl) (fun q26 => ?_)
  refine rn_eq (ws' := ((h0, .inr (9, [.ref q1, .ref q2, .int 0, .ref q3, .ref q4, .ref q5, .ref q6, .ref q7, .int 0, .ref q8, .ref q9, .ref q10, .ref q11, .ref q12, .int 0, .int 0, .int 0, .ref q13, .int 0, .int 0, .int 0, .int 0, .int 0, .int 0, .int 0, .ref q14, .ref q15, .ref q16, .ref q17, .ref q18, .ref q19, .int 0, .ref q20, .ref q21, .ref q22, .ref q23, .ref q24, .ref q25, .null, .int 0])) :: (LL25 ++ [(q26, .inl (G.2.2.1 0, 160, .inl (fun _ => 0)))]))) (k' := 26) (n' := 1907) rfl rfl rfl ?_
  generalize hLL26 : (LL25 ++ [(q26, .inl (G.2.2.1 0, 160, .inl (fun _ => 0)))]) = LL26
  refine rn_putF (j := 38) (i0 := 0) (ws' := ((h0, .inr (9, [.ref q1, .ref q2, .int 0, .ref q3, .ref q4, .ref q5, .ref q6, .ref q7, .int 0, .ref q8, .ref q9, .ref q10, .ref q11, .ref q12, .int 0, .int 0, .int 0, .ref q13, .int 0, .int 0, .int 0, .int 0, .int 0, .int 0, .int 0, .ref q14, .ref q15, .ref q16, .ref q17, .ref q18, .ref q19, .int 0, .ref q20, .ref q21, .ref q22, .ref q23, .ref q24, .ref q25, .ref q26, .int 0])) :: LL26)) (pc' := 207) cls_X9 dX9_init_204 rfl rfl (by decide) wc_124 rfl rfl rfl rfl (Nat.le_of_ble_eq_true rfl) rfl ?_
  refine rn_iconst (v := 0) (pc' := 208) dX9_init_207 rfl (by decide) ?_
  let qq : Nat → Nat := fun j => if 90 ≤ j then G.2.1 j else [h0, q1, q2, q3, q4, q5, q6, q7, q8, q9, q10, q11, q12, q13, q14, q15, q16, q17, q18, q19, q20, q21, q22, q23, q24, q25, q26].getD j 0
  have hqq : ∀ j, 90 ≤ j → qq j = G.2.1 j := fun j hj => if_pos hj
  have e0 : ([] : va_W) = wsT (G.1, qq, G.2.2) 1 ([] : Shp) zMem := rfl
  have e1 := wsT_step (n := 0) (e := (0, 555, [])) e0 hLL1 rfl rfl
  have e2 := wsT_step (n := 1) (e := (2, 2, [])) e1 hLL2 rfl rfl
  have e3 := wsT_step (n := 2) (e := (2, 21, [])) e2 hLL3 rfl rfl
  have e4 := wsT_step (n := 3) (e := (0, 21, [])) e3 hLL4 rfl rfl
  have e5 := wsT_step (n := 4) (e := (0, 21, [])) e4 hLL5 rfl rfl
  have e6 := wsT_step (n := 5) (e := (0, 63, [])) e5 hLL6 rfl rfl
  have e7 := wsT_step (n := 6) (e := (0, 185, [])) e6 hLL7 rfl rfl
  have e8 := wsT_step (n := 7) (e := (2, 21, [])) e7 hLL8 rfl rfl
  have e9 := wsT_step (n := 8) (e := (0, 21, [])) e8 hLL9 rfl rfl
  have e10 := wsT_step (n := 9) (e := (0, 21, [])) e9 hLL10 rfl rfl
  have e11 := wsT_step (n := 10) (e := (0, 63, [])) e10 hLL11 rfl rfl
  have e12 := wsT_step (n := 11) (e := (2, 63, [])) e11 hLL12 rfl rfl
  have e13 := wsT_step (n := 12) (e := (0, 400, [])) e12 hLL13 rfl rfl
  have e14 := wsT_step (n := 13) (e := (0, 5, [])) e13 hLL14 rfl rfl
  have e15 := wsT_step (n := 14) (e := (0, 5, [])) e14 hLL15 rfl rfl
  have e16 := wsT_step (n := 15) (e := (0, 5, [])) e15 hLL16 rfl rfl
  have e17 := wsT_step (n := 16) (e := (0, 5, [])) e16 hLL17 rfl rfl
  have e18 := wsT_step (n := 17) (e := (0, 63, [])) e17 hLL18 rfl rfl
  have e19 := wsT_step (n := 18) (e := (0, 5, [])) e18 hLL19 rfl rfl
  have e20 := wsT_step (n := 19) (e := (0, 5, [])) e19 hLL20 rfl rfl
  have e21 := wsT_step (n := 20) (e := (0, 63, [])) e20 hLL21 rfl rfl
  have e22 := wsT_step (n := 21) (e := (0, 63, [])) e21 hLL22 rfl rfl
  have e23 := wsT_step (n := 22) (e := (2, 63, [])) e22 hLL23 rfl rfl
  have e24 := wsT_step (n := 23) (e := (0, 4, [])) e23 hLL24 rfl rfl
  have e25 := wsT_step (n := 24) (e := (0, 4, [])) e24 hLL25 rfl rfl
  have e26 := wsT_step (n := 25) (e := (0, 160, [])) e25 hLL26 rfl rfl
  have eW := wsT_cons (e := (12, 0, [4, 5, 0, 6, 7, 8, 9, 10, 0, 11, 12, 13, 14, 15, 2, 0, 0, 16, 0, 0, 0, 0, 0, 0, 0, 17, 18, 19, 20, 21, 22, 0, 23, 24, 25, 26, 27, 28, 29, 0])) (x := (h0, .inr (9, [.ref q1, .ref q2, .int 0, .ref q3, .ref q4, .ref q5, .ref q6, .ref q7, .int 0, .ref q8, .ref q9, .ref q10, .ref q11, .ref q12, .int 0, .int 0, .int 0, .ref q13, .int 0, .int 0, .int 0, .int 0, .int 0, .int 0, .int 0, .ref q14, .ref q15, .ref q16, .ref q17, .ref q18, .ref q19, .int 0, .ref q20, .ref q21, .ref q22, .ref q23, .ref q24, .ref q25, .ref q26, .int 0]))) e26 (by
    show _ = (qq 0, Sum.inr (9, List.mapIdx (slotV (G.1, qq, G.2.2) (zMem 0)) [4, 5, 0, 6, 7, 8, 9, 10, 0, 11, 12, 13, 14, 15, 2, 0, 0, 16, 0, 0, 0, 0, 0, 0, 0, 17, 18, 19, 20, 21, 22, 0, 23, 24, 25, 26, 27, 28, 29, 0]))
    simp only [List.mapIdx_cons, List.mapIdx_nil]
    rfl)
  refine rn_eq (ws' := wsOf (G.1, qq, G.2.2) SM zMem) eW rfl rfl ?_
  refine rn_istore_n (i := 1) (lv' := [(1, .int 0), (0, .ref h0)]) (pc' := 209) dX9_init_208 rfl rfl (by decide) rfl ?_
  refine rn_iload_n (i := 1) (pc' := 210) dX9_init_209 rfl rfl (List.mem_of_getElem? (i := 0) rfl) ?_
  refine rn_iconst (v := 4) (pc' := 211) dX9_init_210 rfl (by decide) ?_
  refine rn_ge_f (tgt := 228) (pc' := 214) dX9_init_211 rfl rfl (by decide) ?_
  refine rn_aload_n (pc' := 215) dX9_init_214 rfl rfl (List.mem_of_getElem? (i := 1) rfl) ?_
  refine rn_getW (q := qq) (a := 0) (b := 24) (j := 36) (pc' := 218) cls_X9 dX9_init_215 rfl rfl rfl (by decide) wc_122 ?_
  refine rn_iload_n (i := 1) (pc' := 219) dX9_init_218 rfl rfl (List.mem_of_getElem? (i := 0) rfl) ?_
  refine rn_bipush (v := -4) (pc' := 221) dX9_init_219 rfl (by decide) ?_
  refine rn_iastW (q := qq) (a := 24) (j := 0) (y := (-4)) (pc' := 222) dX9_init_221 rfl rfl (vp_in_lit (by decide)) rfl rfl ?_
  refine rn_iinc (i := 1) (v := 1) (lv' := [(1, .int 1), (0, .ref h0)]) (pc' := 225) dX9_init_222 rfl (List.mem_of_getElem? (i := 0) rfl) (by decide) (by decide) rfl ?_
  refine rn_goto (pc' := 209) dX9_init_225 rfl ?_
  refine rn_iload_n (i := 1) (pc' := 210) dX9_init_209 rfl rfl (List.mem_of_getElem? (i := 0) rfl) ?_
  refine rn_iconst (v := 4) (pc' := 211) dX9_init_210 rfl (by decide) ?_
  refine rn_ge_f (tgt := 228) (pc' := 214) dX9_init_211 rfl rfl (by decide) ?_
  refine rn_aload_n (pc' := 215) dX9_init_214 rfl rfl (List.mem_of_getElem? (i := 1) rfl) ?_
  refine rn_getW (q := qq) (a := 0) (b := 24) (j := 36) (pc' := 218) cls_X9 dX9_init_215 rfl rfl rfl (by decide) wc_122 ?_
  refine rn_iload_n (i := 1) (pc' := 219) dX9_init_218 rfl rfl (List.mem_of_getElem? (i := 0) rfl) ?_
  refine rn_bipush (v := -4) (pc' := 221) dX9_init_219 rfl (by decide) ?_
  refine rn_iastW (q := qq) (a := 24) (j := 1) (y := (-4)) (pc' := 222) dX9_init_221 rfl rfl (vp_in_lit (by decide)) rfl rfl ?_
  refine rn_iinc (i := 1) (v := 2) (lv' := [(1, .int 2), (0, .ref h0)]) (pc' := 225) dX9_init_222 rfl (List.mem_of_getElem? (i := 0) rfl) (by decide) (by decide) rfl ?_
  refine rn_goto (pc' := 209) dX9_init_225 rfl ?_
  refine rn_iload_n (i := 1) (pc' := 210) dX9_init_209 rfl rfl (List.mem_of_getElem? (i := 0) rfl) ?_
  refine rn_iconst (v := 4) (pc' := 211) dX9_init_210 rfl (by decide) ?_
  refine rn_ge_f (tgt := 228) (pc' := 214) dX9_init_211 rfl rfl (by decide) ?_
  refine rn_aload_n (pc' := 215) dX9_init_214 rfl rfl (List.mem_of_getElem? (i := 1) rfl) ?_
  refine rn_getW (q := qq) (a := 0) (b := 24) (j := 36) (pc' := 218) cls_X9 dX9_init_215 rfl rfl rfl (by decide) wc_122 ?_
  refine rn_iload_n (i := 1) (pc' := 219) dX9_init_218 rfl rfl (List.mem_of_getElem? (i := 0) rfl) ?_
  refine rn_bipush (v := -4) (pc' := 221) dX9_init_219 rfl (by decide) ?_
  refine rn_iastW (q := qq) (a := 24) (j := 2) (y := (-4)) (pc' := 222) dX9_init_221 rfl rfl (vp_in_lit (by decide)) rfl rfl ?_
  refine rn_iinc (i := 1) (v := 3) (lv' := [(1, .int 3), (0, .ref h0)]) (pc' := 225) dX9_init_222 rfl (List.mem_of_getElem? (i := 0) rfl) (by decide) (by decide) rfl ?_
  refine rn_goto (pc' := 209) dX9_init_225 rfl ?_
  refine rn_iload_n (i := 1) (pc' := 210) dX9_init_209 rfl rfl (List.mem_of_getElem? (i := 0) rfl) ?_
  refine rn_iconst (v := 4) (pc' := 211) dX9_init_210 rfl (by decide) ?_
  refine rn_ge_f (tgt := 228) (pc' := 214) dX9_init_211 rfl rfl (by decide) ?_
  refine rn_aload_n (pc' := 215) dX9_init_214 rfl rfl (List.mem_of_getElem? (i := 1) rfl) ?_
  refine rn_getW (q := qq) (a := 0) (b := 24) (j := 36) (pc' := 218) cls_X9 dX9_init_215 rfl rfl rfl (by decide) wc_122 ?_
  refine rn_iload_n (i := 1) (pc' := 219) dX9_init_218 rfl rfl (List.mem_of_getElem? (i := 0) rfl) ?_
  refine rn_bipush (v := -4) (pc' := 221) dX9_init_219 rfl (by decide) ?_
  refine rn_iastW (q := qq) (a := 24) (j := 3) (y := (-4)) (pc' := 222) dX9_init_221 rfl rfl (vp_in_lit (by decide)) rfl rfl ?_
  refine rn_iinc (i := 1) (v := 4) (lv' := [(1, .int 4), (0, .ref h0)]) (pc' := 225) dX9_init_222 rfl (List.mem_of_getElem? (i := 0) rfl) (by decide) (by decide) rfl ?_
  refine rn_goto (pc' := 209) dX9_init_225 rfl ?_
  refine rn_iload_n (i := 1) (pc' := 210) dX9_init_209 rfl rfl (List.mem_of_getElem? (i := 0) rfl) ?_
  refine rn_iconst (v := 4) (pc' := 211) dX9_init_210 rfl (by decide) ?_
  refine rn_ge_t (pc' := 228) dX9_init_211 rfl (by decide) ?_
  refine rn_aload_n (pc' := 229) dX9_init_228 rfl rfl (List.mem_of_getElem? (i := 1) rfl) ?_
  rw [aMem_eq]
  refine rn_callSp (q := qq) (Sh := SM) (μ := aMem) (μ1 := bMem) (pc' := 232) (fd_sp l (G.1, qq, G.2.2)) okA hqq rfl (fun _ => rfl) dX9_init_229 rfl mg_X9_firstDraft mi_X9_firstDraft (Or.inl ⟨9, _, TX9, 40, rfl, rfl⟩) (by decide) ⟨Nat.le_of_ble_eq_true rfl, Nat.le_of_ble_eq_true rfl⟩ wc_125 (Nat.le_of_ble_eq_true rfl) (Nat.le_of_ble_eq_true rfl) (Nat.le_of_ble_eq_true rfl) ?_
  refine rn_aload_n (pc' := 233) dX9_init_232 rfl rfl (List.mem_of_getElem? (i := 1) rfl) ?_
  refine rn_callSp (q := qq) (Sh := SM) (μ := bMem) (μ1 := mMem) (pc' := 236) (kd_sp l (G.1, qq, G.2.2)) okB hqq rfl (fun _ => rfl) dX9_init_233 rfl mg_X9_keepDraft mi_X9_keepDraft (Or.inl ⟨9, _, TX9, 40, rfl, rfl⟩) (by decide) ⟨Nat.le_of_ble_eq_true rfl, Nat.le_of_ble_eq_true rfl⟩ wc_126 (Nat.le_of_ble_eq_true rfl) (Nat.le_of_ble_eq_true rfl) (Nat.le_of_ble_eq_true rfl) ?_
  exact rn_ret dX9_init_236 rfl ⟨qq, rfl, hqq, rfl⟩
