def qX1 (G : Nv) (h0 : Nat) (ws : va_W) : Prop := ∃ (q1 : Nat), ws = ((h0, .inr (1, [.ref q1, .int 0])) :: (([] : va_W) ++ [(q1, .inl (G.2.2.1 0, 5, .inl (fun _ => 0)))]))
theorem c_X1 (l : Launch) (G : Nv) (h0 : Nat) : SpN l G mX1_init [.ref h0] [(h0, .inr (1, [.null, .int 0]))] 1 5 (qX1 G h0) := by
  refine spn_of pn_X1 rfl rfl (Nat.le_of_ble_eq_true rfl) ?_
  refine rn_eq (ws' := ((h0, .inr (1, [.null, .int 0])) :: ([] : va_W))) (k' := 0) (n' := 0) rfl rfl rfl ?_
  refine rn_aload_n (pc' := 1) dX1_init_0 rfl rfl (List.mem_of_getElem? (i := 0) rfl) ?_
  refine rn_objinit (pc' := 4) dX1_init_1 rfl wc_0 wx_0 objcode (Nat.le_of_ble_eq_true rfl) (Nat.le_of_ble_eq_true rfl) ?_
  refine rn_aload_n (pc' := 5) dX1_init_4 rfl rfl (List.mem_of_getElem? (i := 0) rfl) ?_
  refine rn_iconst (v := 5) (pc' := 6) dX1_init_5 rfl (by decide) ?_
  refine rn_arrI (N := 5) (pc' := 8) dX1_init_6 rfl wx_1 (by decide) rfl (Nat.le_of_ble_eq_true rfl) (Nat.le_of_ble_eq_true rfl) (Nat.le_of_ble_eq_true rfl) (fun q1 => ?_)
  refine rn_eq (ws' := ((h0, .inr (1, [.null, .int 0])) :: (([] : va_W) ++ [(q1, .inl (G.2.2.1 0, 5, .inl (fun _ => 0)))]))) (k' := 1) (n' := 5) rfl rfl rfl ?_
  refine rn_putF (j := 0) (i0 := 0) (ws' := ((h0, .inr (1, [.ref q1, .int 0])) :: (([] : va_W) ++ [(q1, .inl (G.2.2.1 0, 5, .inl (fun _ => 0)))]))) (pc' := 11) cls_X1 dX1_init_8 rfl rfl (by decide) wc_1 rfl rfl rfl rfl (Nat.le_of_ble_eq_true rfl) rfl ?_
  refine rn_aload_n (pc' := 12) dX1_init_11 rfl rfl (List.mem_of_getElem? (i := 0) rfl) ?_
  refine rn_iconst (v := 0) (pc' := 13) dX1_init_12 rfl (by decide) ?_
  refine rn_put (j := 1) (i0 := 0) (ws' := ((h0, .inr (1, [.ref q1, .int 0])) :: (([] : va_W) ++ [(q1, .inl (G.2.2.1 0, 5, .inl (fun _ => 0)))]))) (pc' := 16) cls_X1 dX1_init_13 rfl rfl (by decide) wc_2 rfl rfl rfl (Nat.le_of_ble_eq_true rfl) rfl ?_
  exact rn_ret dX1_init_16 rfl ⟨q1, rfl⟩
def qX4 (G : Nv) (h0 : Nat) (ws : va_W) : Prop := ∃ q : Nat → Nat, q 0 = h0 ∧ (∀ j, 90 ≤ j → q j = G.2.1 j) ∧ ws = wsOf (G.1, q, G.2.2) SRs rMem
theorem c_X4 (l : Launch) (G : Nv) (h0 : Nat) : SpN l G mX4_init [.ref h0] [(h0, .inr (4, [.null, .null, .null, .null, .null, .null, .null, .int 0, .long 0, .int 0, .int 0, .int 0]))] 7 219 (qX4 G h0) := by
  refine spn_of pn_X4 rfl rfl (Nat.le_of_ble_eq_true rfl) ?_
  refine rn_eq (ws' := ((h0, .inr (4, [.null, .null, .null, .null, .null, .null, .null, .int 0, .long 0, .int 0, .int 0, .int 0])) :: ([] : va_W))) (k' := 0) (n' := 0) rfl rfl rfl ?_
  refine rn_aload_n (pc' := 1) dX4_init_0 rfl rfl (List.mem_of_getElem? (i := 0) rfl) ?_
  refine rn_objinit (pc' := 4) dX4_init_1 rfl wc_3 wx_0 objcode (Nat.le_of_ble_eq_true rfl) (Nat.le_of_ble_eq_true rfl) ?_
  refine rn_aload_n (pc' := 5) dX4_init_4 rfl rfl (List.mem_of_getElem? (i := 0) rfl) ?_
  refine rn_bipush (v := 21) (pc' := 7) dX4_init_5 rfl (by decide) ?_
  refine rn_arrI (N := 21) (pc' := 9) dX4_init_7 rfl wx_1 (by decide) rfl (Nat.le_of_ble_eq_true rfl) (Nat.le_of_ble_eq_true rfl) (Nat.le_of_ble_eq_true rfl) (fun q1 => ?_)
  refine rn_eq (ws' := ((h0, .inr (4, [.null, .null, .null, .null, .null, .null, .null, .int 0, .long 0, .int 0, .int 0, .int 0])) :: (([] : va_W) ++ [(q1, .inl (G.2.2.1 0, 21, .inl (fun _ => 0)))]))) (k' := 1) (n' := 21) rfl rfl rfl ?_
  refine rn_putF (j := 0) (i0 := 0) (ws' := ((h0, .inr (4, [.ref q1, .null, .null, .null, .null, .null, .null, .int 0, .long 0, .int 0, .int 0, .int 0])) :: (([] : va_W) ++ [(q1, .inl (G.2.2.1 0, 21, .inl (fun _ => 0)))]))) (pc' := 12) cls_X4 dX4_init_9 rfl rfl (by decide) wc_4 rfl rfl rfl rfl (Nat.le_of_ble_eq_true rfl) rfl ?_
  refine rn_aload_n (pc' := 13) dX4_init_12 rfl rfl (List.mem_of_getElem? (i := 0) rfl) ?_
  refine rn_bipush (v := 21) (pc' := 15) dX4_init_13 rfl (by decide) ?_
  refine rn_arrI (N := 21) (pc' := 17) dX4_init_15 rfl wx_1 (by decide) rfl (Nat.le_of_ble_eq_true rfl) (Nat.le_of_ble_eq_true rfl) (Nat.le_of_ble_eq_true rfl) (fun q2 => ?_)
  refine rn_eq (ws' := ((h0, .inr (4, [.ref q1, .null, .null, .null, .null, .null, .null, .int 0, .long 0, .int 0, .int 0, .int 0])) :: ((([] : va_W) ++ [(q1, .inl (G.2.2.1 0, 21, .inl (fun _ => 0)))]) ++ [(q2, .inl (G.2.2.1 0, 21, .inl (fun _ => 0)))]))) (k' := 2) (n' := 42) rfl rfl rfl ?_
  refine rn_putF (j := 1) (i0 := 0) (ws' := ((h0, .inr (4, [.ref q1, .ref q2, .null, .null, .null, .null, .null, .int 0, .long 0, .int 0, .int 0, .int 0])) :: ((([] : va_W) ++ [(q1, .inl (G.2.2.1 0, 21, .inl (fun _ => 0)))]) ++ [(q2, .inl (G.2.2.1 0, 21, .inl (fun _ => 0)))]))) (pc' := 20) cls_X4 dX4_init_17 rfl rfl (by decide) wc_5 rfl rfl rfl rfl (Nat.le_of_ble_eq_true rfl) rfl ?_
  refine rn_aload_n (pc' := 21) dX4_init_20 rfl rfl (List.mem_of_getElem? (i := 0) rfl) ?_
  refine rn_bipush (v := 63) (pc' := 23) dX4_init_21 rfl (by decide) ?_
  refine rn_arrI (N := 63) (pc' := 25) dX4_init_23 rfl wx_1 (by decide) rfl (Nat.le_of_ble_eq_true rfl) (Nat.le_of_ble_eq_true rfl) (Nat.le_of_ble_eq_true rfl) (fun q3 => ?_)
  refine rn_eq (ws' := ((h0, .inr (4, [.ref q1, .ref q2, .null, .null, .null, .null, .null, .int 0, .long 0, .int 0, .int 0, .int 0])) :: (((([] : va_W) ++ [(q1, .inl (G.2.2.1 0, 21, .inl (fun _ => 0)))]) ++ [(q2, .inl (G.2.2.1 0, 21, .inl (fun _ => 0)))]) ++ [(q3, .inl (G.2.2.1 0, 63, .inl (fun _ => 0)))]))) (k' := 3) (n' := 105) rfl rfl rfl ?_
  refine rn_putF (j := 2) (i0 := 0) (ws' := ((h0, .inr (4, [.ref q1, .ref q2, .ref q3, .null, .null, .null, .null, .int 0, .long 0, .int 0, .int 0, .int 0])) :: (((([] : va_W) ++ [(q1, .inl (G.2.2.1 0, 21, .inl (fun _ => 0)))]) ++ [(q2, .inl (G.2.2.1 0, 21, .inl (fun _ => 0)))]) ++ [(q3, .inl (G.2.2.1 0, 63, .inl (fun _ => 0)))]))) (pc' := 28) cls_X4 dX4_init_25 rfl rfl (by decide) wc_6 rfl rfl rfl rfl (Nat.le_of_ble_eq_true rfl) rfl ?_
  refine rn_aload_n (pc' := 29) dX4_init_28 rfl rfl (List.mem_of_getElem? (i := 0) rfl) ?_
  refine rn_bipush (v := 63) (pc' := 31) dX4_init_29 rfl (by decide) ?_
  refine rn_arrI (N := 63) (pc' := 33) dX4_init_31 rfl wx_1 (by decide) rfl (Nat.le_of_ble_eq_true rfl) (Nat.le_of_ble_eq_true rfl) (Nat.le_of_ble_eq_true rfl) (fun q4 => ?_)
  refine rn_eq (ws' := ((h0, .inr (4, [.ref q1, .ref q2, .ref q3, .null, .null, .null, .null, .int 0, .long 0, .int 0, .int 0, .int 0])) :: ((((([] : va_W) ++ [(q1, .inl (G.2.2.1 0, 21, .inl (fun _ => 0)))]) ++ [(q2, .inl (G.2.2.1 0, 21, .inl (fun _ => 0)))]) ++ [(q3, .inl (G.2.2.1 0, 63, .inl (fun _ => 0)))]) ++ [(q4, .inl (G.2.2.1 0, 63, .inl (fun _ => 0)))]))) (k' := 4) (n' := 168) rfl rfl rfl ?_
  refine rn_putF (j := 3) (i0 := 0) (ws' := ((h0, .inr (4, [.ref q1, .ref q2, .ref q3, .ref q4, .null, .null, .null, .int 0, .long 0, .int 0, .int 0, .int 0])) :: ((((([] : va_W) ++ [(q1, .inl (G.2.2.1 0, 21, .inl (fun _ => 0)))]) ++ [(q2, .inl (G.2.2.1 0, 21, .inl (fun _ => 0)))]) ++ [(q3, .inl (G.2.2.1 0, 63, .inl (fun _ => 0)))]) ++ [(q4, .inl (G.2.2.1 0, 63, .inl (fun _ => 0)))]))) (pc' := 36) cls_X4 dX4_init_33 rfl rfl (by decide) wc_7 rfl rfl rfl rfl (Nat.le_of_ble_eq_true rfl) rfl ?_
  refine rn_aload_n (pc' := 37) dX4_init_36 rfl rfl (List.mem_of_getElem? (i := 0) rfl) ?_
  refine rn_bipush (v := 35) (pc' := 39) dX4_init_37 rfl (by decide) ?_
  refine rn_arrI (N := 35) (pc' := 41) dX4_init_39 rfl wx_1 (by decide) rfl (Nat.le_of_ble_eq_true rfl) (Nat.le_of_ble_eq_true rfl) (Nat.le_of_ble_eq_true rfl) (fun q5 => ?_)
  refine rn_eq (ws' := ((h0, .inr (4, [.ref q1, .ref q2, .ref q3, .ref q4, .null, .null, .null, .int 0, .long 0, .int 0, .int 0, .int 0])) :: (((((([] : va_W) ++ [(q1, .inl (G.2.2.1 0, 21, .inl (fun _ => 0)))]) ++ [(q2, .inl (G.2.2.1 0, 21, .inl (fun _ => 0)))]) ++ [(q3, .inl (G.2.2.1 0, 63, .inl (fun _ => 0)))]) ++ [(q4, .inl (G.2.2.1 0, 63, .inl (fun _ => 0)))]) ++ [(q5, .inl (G.2.2.1 0, 35, .inl (fun _ => 0)))]))) (k' := 5) (n' := 203) rfl rfl rfl ?_
  refine rn_putF (j := 4) (i0 := 0) (ws' := ((h0, .inr (4, [.ref q1, .ref q2, .ref q3, .ref q4, .ref q5, .null, .null, .int 0, .long 0, .int 0, .int 0, .int 0])) :: (((((([] : va_W) ++ [(q1, .inl (G.2.2.1 0, 21, .inl (fun _ => 0)))]) ++ [(q2, .inl (G.2.2.1 0, 21, .inl (fun _ => 0)))]) ++ [(q3, .inl (G.2.2.1 0, 63, .inl (fun _ => 0)))]) ++ [(q4, .inl (G.2.2.1 0, 63, .inl (fun _ => 0)))]) ++ [(q5, .inl (G.2.2.1 0, 35, .inl (fun _ => 0)))]))) (pc' := 44) cls_X4 dX4_init_41 rfl rfl (by decide) wc_8 rfl rfl rfl rfl (Nat.le_of_ble_eq_true rfl) rfl ?_
  refine rn_aload_n (pc' := 45) dX4_init_44 rfl rfl (List.mem_of_getElem? (i := 0) rfl) ?_
  refine rn_bipush (v := 8) (pc' := 47) dX4_init_45 rfl (by decide) ?_
  refine rn_arrI (N := 8) (pc' := 49) dX4_init_47 rfl wx_1 (by decide) rfl (Nat.le_of_ble_eq_true rfl) (Nat.le_of_ble_eq_true rfl) (Nat.le_of_ble_eq_true rfl) (fun q6 => ?_)
  refine rn_eq (ws' := ((h0, .inr (4, [.ref q1, .ref q2, .ref q3, .ref q4, .ref q5, .null, .null, .int 0, .long 0, .int 0, .int 0, .int 0])) :: ((((((([] : va_W) ++ [(q1, .inl (G.2.2.1 0, 21, .inl (fun _ => 0)))]) ++ [(q2, .inl (G.2.2.1 0, 21, .inl (fun _ => 0)))]) ++ [(q3, .inl (G.2.2.1 0, 63, .inl (fun _ => 0)))]) ++ [(q4, .inl (G.2.2.1 0, 63, .inl (fun _ => 0)))]) ++ [(q5, .inl (G.2.2.1 0, 35, .inl (fun _ => 0)))]) ++ [(q6, .inl (G.2.2.1 0, 8, .inl (fun _ => 0)))]))) (k' := 6) (n' := 211) rfl rfl rfl ?_
  refine rn_putF (j := 5) (i0 := 0) (ws' := ((h0, .inr (4, [.ref q1, .ref q2, .ref q3, .ref q4, .ref q5, .ref q6, .null, .int 0, .long 0, .int 0, .int 0, .int 0])) :: ((((((([] : va_W) ++ [(q1, .inl (G.2.2.1 0, 21, .inl (fun _ => 0)))]) ++ [(q2, .inl (G.2.2.1 0, 21, .inl (fun _ => 0)))]) ++ [(q3, .inl (G.2.2.1 0, 63, .inl (fun _ => 0)))]) ++ [(q4, .inl (G.2.2.1 0, 63, .inl (fun _ => 0)))]) ++ [(q5, .inl (G.2.2.1 0, 35, .inl (fun _ => 0)))]) ++ [(q6, .inl (G.2.2.1 0, 8, .inl (fun _ => 0)))]))) (pc' := 52) cls_X4 dX4_init_49 rfl rfl (by decide) wc_9 rfl rfl rfl rfl (Nat.le_of_ble_eq_true rfl) rfl ?_
  refine rn_aload_n (pc' := 53) dX4_init_52 rfl rfl (List.mem_of_getElem? (i := 0) rfl) ?_
  refine rn_bipush (v := 8) (pc' := 55) dX4_init_53 rfl (by decide) ?_
  refine rn_arrI (N := 8) (pc' := 57) dX4_init_55 rfl wx_1 (by decide) rfl (Nat.le_of_ble_eq_true rfl) (Nat.le_of_ble_eq_true rfl) (Nat.le_of_ble_eq_true rfl) (fun q7 => ?_)
  refine rn_eq (ws' := ((h0, .inr (4, [.ref q1, .ref q2, .ref q3, .ref q4, .ref q5, .ref q6, .null, .int 0, .long 0, .int 0, .int 0, .int 0])) :: (((((((([] : va_W) ++ [(q1, .inl (G.2.2.1 0, 21, .inl (fun _ => 0)))]) ++ [(q2, .inl (G.2.2.1 0, 21, .inl (fun _ => 0)))]) ++ [(q3, .inl (G.2.2.1 0, 63, .inl (fun _ => 0)))]) ++ [(q4, .inl (G.2.2.1 0, 63, .inl (fun _ => 0)))]) ++ [(q5, .inl (G.2.2.1 0, 35, .inl (fun _ => 0)))]) ++ [(q6, .inl (G.2.2.1 0, 8, .inl (fun _ => 0)))]) ++ [(q7, .inl (G.2.2.1 0, 8, .inl (fun _ => 0)))]))) (k' := 7) (n' := 219) rfl rfl rfl ?_
  refine rn_putF (j := 6) (i0 := 0) (ws' := ((h0, .inr (4, [.ref q1, .ref q2, .ref q3, .ref q4, .ref q5, .ref q6, .ref q7, .int 0, .long 0, .int 0, .int 0, .int 0])) :: (((((((([] : va_W) ++ [(q1, .inl (G.2.2.1 0, 21, .inl (fun _ => 0)))]) ++ [(q2, .inl (G.2.2.1 0, 21, .inl (fun _ => 0)))]) ++ [(q3, .inl (G.2.2.1 0, 63, .inl (fun _ => 0)))]) ++ [(q4, .inl (G.2.2.1 0, 63, .inl (fun _ => 0)))]) ++ [(q5, .inl (G.2.2.1 0, 35, .inl (fun _ => 0)))]) ++ [(q6, .inl (G.2.2.1 0, 8, .inl (fun _ => 0)))]) ++ [(q7, .inl (G.2.2.1 0, 8, .inl (fun _ => 0)))]))) (pc' := 60) cls_X4 dX4_init_57 rfl rfl (by decide) wc_10 rfl rfl rfl rfl (Nat.le_of_ble_eq_true rfl) rfl ?_
  refine rn_aload_n (pc' := 61) dX4_init_60 rfl rfl (List.mem_of_getElem? (i := 0) rfl) ?_
  let qq : Nat → Nat := fun j => if 90 ≤ j then G.2.1 j else [h0, q1, q2, q3, q4, q5, q6, q7].getD j 0
  have hqq : ∀ j, 90 ≤ j → qq j = G.2.1 j := fun j hj => if_pos hj
  refine rn_eq (ws' := wsOf (G.1, qq, G.2.2) SRs zMem) rfl rfl rfl ?_
  refine rn_callSp (q := qq) (Sh := SRs) (μ := zMem) (μ1 := rMem) (pc' := 64) (rst_sp l (G.1, qq, G.2.2)) okZ hqq rfl (fun _ => rfl) dX4_init_61 rfl mg_X4_reset mi_X4_reset (Or.inl ⟨4, _, TX4, 12, rfl, rfl⟩) (by decide) ⟨Nat.le_of_ble_eq_true rfl, Nat.le_of_ble_eq_true rfl⟩ wc_11 (Nat.le_of_ble_eq_true rfl) (Nat.le_of_ble_eq_true rfl) (Nat.le_of_ble_eq_true rfl) ?_
  exact rn_ret dX4_init_64 rfl ⟨qq, rfl, hqq, rfl⟩
def qX0 (G : Nv) (h0 a1 : Nat) (ws : va_W) : Prop := ∃ (q1 : Nat) (L1 : va_W) (q2 : Nat), qX1 G q1 L1 ∧ ws = ((h0, .inr (0, [.ref a1, .ref q1, .ref q2, .int 0, .int 0])) :: ((([] : va_W) ++ L1) ++ [(q2, .inl (G.2.2.1 0, 5, .inl (fun _ => 0)))]))
theorem c_X0 (l : Launch) (G : Nv) (h0 a1 : Nat) : SpN l G mX0_init [.ref h0, .ref a1] [(h0, .inr (0, [.null, .null, .null, .int 0, .int 0]))] 3 12 (qX0 G h0 a1) := by
  refine spn_of pn_X0 rfl rfl (Nat.le_of_ble_eq_true rfl) ?_
  refine rn_eq (ws' := ((h0, .inr (0, [.null, .null, .null, .int 0, .int 0])) :: ([] : va_W))) (k' := 0) (n' := 0) rfl rfl rfl ?_
  refine rn_aload_n (pc' := 1) dX0_init_0 rfl rfl (List.mem_of_getElem? (i := 0) rfl) ?_
  refine rn_objinit (pc' := 4) dX0_init_1 rfl wc_12 wx_0 objcode (Nat.le_of_ble_eq_true rfl) (Nat.le_of_ble_eq_true rfl) ?_
  refine rn_aload_n (pc' := 5) dX0_init_4 rfl rfl (List.mem_of_getElem? (i := 0) rfl) ?_
  refine rn_new (fs := [.null, .int 0]) (pc' := 8) cls_X1 dX0_init_5 rfl wx_2 wx_3 wc_13 (by decide +kernel) (Nat.le_of_ble_eq_true rfl) (Nat.le_of_ble_eq_true rfl) (fun q1 => ?_)
  refine rn_dup (pc' := 9) dX0_init_8 rfl rfl ?_
  refine rn_callI (av := []) (st := [.ref q1, .ref h0]) (wr := ((h0, .inr (0, [.null, .null, .null, .int 0, .int 0])) :: ([] : va_W))) (wc := [(q1, .inr (1, [.null, .int 0]))]) (pc' := 12) (c_X1 l G q1) dX0_init_9 rfl rfl mg_X1_init mn_X1_init rfl rfl ⟨Nat.le_of_ble_eq_true rfl, Nat.le_of_ble_eq_true rfl⟩ wc_14 rfl (Nat.le_of_ble_eq_true rfl) (Nat.le_of_ble_eq_true rfl) (Nat.le_of_ble_eq_true rfl) (fun L1 hL1 => ?_)
  refine rn_eq (ws' := ((h0, .inr (0, [.null, .null, .null, .int 0, .int 0])) :: (([] : va_W) ++ L1))) (k' := 2) (n' := 7) rfl rfl rfl ?_
  refine rn_putF (j := 1) (i0 := 0) (ws' := ((h0, .inr (0, [.null, .ref q1, .null, .int 0, .int 0])) :: (([] : va_W) ++ L1))) (pc' := 15) cls_X0 dX0_init_12 rfl rfl (by decide) wc_15 rfl rfl rfl rfl (Nat.le_of_ble_eq_true rfl) rfl ?_
  refine rn_aload_n (pc' := 16) dX0_init_15 rfl rfl (List.mem_of_getElem? (i := 0) rfl) ?_
  refine rn_iconst (v := 5) (pc' := 17) dX0_init_16 rfl (by decide) ?_
  refine rn_arrI (N := 5) (pc' := 19) dX0_init_17 rfl wx_1 (by decide) rfl (Nat.le_of_ble_eq_true rfl) (Nat.le_of_ble_eq_true rfl) (Nat.le_of_ble_eq_true rfl) (fun q2 => ?_)
  refine rn_eq (ws' := ((h0, .inr (0, [.null, .ref q1, .null, .int 0, .int 0])) :: ((([] : va_W) ++ L1) ++ [(q2, .inl (G.2.2.1 0, 5, .inl (fun _ => 0)))]))) (k' := 3) (n' := 12) rfl rfl rfl ?_
  refine rn_putF (j := 2) (i0 := 0) (ws' := ((h0, .inr (0, [.null, .ref q1, .ref q2, .int 0, .int 0])) :: ((([] : va_W) ++ L1) ++ [(q2, .inl (G.2.2.1 0, 5, .inl (fun _ => 0)))]))) (pc' := 22) cls_X0 dX0_init_19 rfl rfl (by decide) wc_16 rfl rfl rfl rfl (Nat.le_of_ble_eq_true rfl) rfl ?_
  refine rn_aload_n (pc' := 23) dX0_init_22 rfl rfl (List.mem_of_getElem? (i := 0) rfl) ?_
  refine rn_iconst (v := 0) (pc' := 24) dX0_init_23 rfl (by decide) ?_
  refine rn_put (j := 3) (i0 := 0) (ws' := ((h0, .inr (0, [.null, .ref q1, .ref q2, .int 0, .int 0])) :: ((([] : va_W) ++ L1) ++ [(q2, .inl (G.2.2.1 0, 5, .inl (fun _ => 0)))]))) (pc' := 27) cls_X0 dX0_init_24 rfl rfl (by decide) wc_17 rfl rfl rfl (Nat.le_of_ble_eq_true rfl) rfl ?_
  refine rn_aload_n (pc' := 28) dX0_init_27 rfl rfl (List.mem_of_getElem? (i := 0) rfl) ?_
  refine rn_iconst (v := 0) (pc' := 29) dX0_init_28 rfl (by decide) ?_
  refine rn_put (j := 4) (i0 := 0) (ws' := ((h0, .inr (0, [.null, .ref q1, .ref q2, .int 0, .int 0])) :: ((([] : va_W) ++ L1) ++ [(q2, .inl (G.2.2.1 0, 5, .inl (fun _ => 0)))]))) (pc' := 32) cls_X0 dX0_init_29 rfl rfl (by decide) wc_18 rfl rfl rfl (Nat.le_of_ble_eq_true rfl) rfl ?_
  refine rn_aload_n (pc' := 33) dX0_init_32 rfl rfl (List.mem_of_getElem? (i := 0) rfl) ?_
  refine rn_aload_n (pc' := 34) dX0_init_33 rfl rfl (List.mem_of_getElem? (i := 1) rfl) ?_
  refine rn_putF (j := 0) (i0 := 0) (ws' := ((h0, .inr (0, [.ref a1, .ref q1, .ref q2, .int 0, .int 0])) :: ((([] : va_W) ++ L1) ++ [(q2, .inl (G.2.2.1 0, 5, .inl (fun _ => 0)))]))) (pc' := 37) cls_X0 dX0_init_34 rfl rfl (by decide) wc_19 rfl rfl rfl rfl (Nat.le_of_ble_eq_true rfl) rfl ?_
  exact rn_ret dX0_init_37 rfl ⟨q1, L1, q2, hL1, rfl⟩
def qX2 (G : Nv) (h0 a1 a2 : Nat) (ws : va_W) : Prop := ∃ (q1 : Nat) (L1 : va_W) (q2 : Nat) (L2 : va_W), qX1 G q1 L1 ∧ qX1 G q2 L2 ∧ ws = ((h0, .inr (2, [.ref a1, .ref a2, .ref q1, .ref q2, .int 0, .int 0, .int (-4), .int (-4), .int (-4), .int (-4)])) :: ((([] : va_W) ++ L1) ++ L2))
theorem c_X2 (l : Launch) (G : Nv) (h0 a1 a2 : Nat) : SpN l G mX2_init [.ref h0, .ref a1, .ref a2] [(h0, .inr (2, [.null, .null, .null, .null, .int 0, .int 0, .int 0, .int 0, .int 0, .int 0]))] 4 14 (qX2 G h0 a1 a2) := by
  refine spn_of pn_X2 rfl rfl (Nat.le_of_ble_eq_true rfl) ?_
  refine rn_eq (ws' := ((h0, .inr (2, [.null, .null, .null, .null, .int 0, .int 0, .int 0, .int 0, .int 0, .int 0])) :: ([] : va_W))) (k' := 0) (n' := 0) rfl rfl rfl ?_
  refine rn_aload_n (pc' := 1) dX2_init_0 rfl rfl (List.mem_of_getElem? (i := 0) rfl) ?_
  refine rn_objinit (pc' := 4) dX2_init_1 rfl wc_20 wx_0 objcode (Nat.le_of_ble_eq_true rfl) (Nat.le_of_ble_eq_true rfl) ?_
  refine rn_aload_n (pc' := 5) dX2_init_4 rfl rfl (List.mem_of_getElem? (i := 0) rfl) ?_
  refine rn_new (fs := [.null, .int 0]) (pc' := 8) cls_X1 dX2_init_5 rfl wx_4 wx_3 wc_13 (by decide +kernel) (Nat.le_of_ble_eq_true rfl) (Nat.le_of_ble_eq_true rfl) (fun q1 => ?_)
  refine rn_dup (pc' := 9) dX2_init_8 rfl rfl ?_
  refine rn_callI (av := []) (st := [.ref q1, .ref h0]) (wr := ((h0, .inr (2, [.null, .null, .null, .null, .int 0, .int 0, .int 0, .int 0, .int 0, .int 0])) :: ([] : va_W))) (wc := [(q1, .inr (1, [.null, .int 0]))]) (pc' := 12) (c_X1 l G q1) dX2_init_9 rfl rfl mg_X1_init mn_X1_init rfl rfl ⟨Nat.le_of_ble_eq_true rfl, Nat.le_of_ble_eq_true rfl⟩ wc_21 rfl (Nat.le_of_ble_eq_true rfl) (Nat.le_of_ble_eq_true rfl) (Nat.le_of_ble_eq_true rfl) (fun L1 hL1 => ?_)
  refine rn_eq (ws' := ((h0, .inr (2, [.null, .null, .null, .null, .int 0, .int 0, .int 0, .int 0, .int 0, .int 0])) :: (([] : va_W) ++ L1))) (k' := 2) (n' := 7) rfl rfl rfl ?_
  refine rn_putF (j := 2) (i0 := 0) (ws' := ((h0, .inr (2, [.null, .null, .ref q1, .null, .int 0, .int 0, .int 0, .int 0, .int 0, .int 0])) :: (([] : va_W) ++ L1))) (pc' := 15) cls_X2 dX2_init_12 rfl rfl (by decide) wc_22 rfl rfl rfl rfl (Nat.le_of_ble_eq_true rfl) rfl ?_
  refine rn_aload_n (pc' := 16) dX2_init_15 rfl rfl (List.mem_of_getElem? (i := 0) rfl) ?_
  refine rn_new (fs := [.null, .int 0]) (pc' := 19) cls_X1 dX2_init_16 rfl wx_4 wx_3 wc_13 (by decide +kernel) (Nat.le_of_ble_eq_true rfl) (Nat.le_of_ble_eq_true rfl) (fun q2 => ?_)
  refine rn_dup (pc' := 20) dX2_init_19 rfl rfl ?_
  refine rn_callI (av := []) (st := [.ref q2, .ref h0]) (wr := ((h0, .inr (2, [.null, .null, .ref q1, .null, .int 0, .int 0, .int 0, .int 0, .int 0, .int 0])) :: (([] : va_W) ++ L1))) (wc := [(q2, .inr (1, [.null, .int 0]))]) (pc' := 23) (c_X1 l G q2) dX2_init_20 rfl rfl mg_X1_init mn_X1_init rfl rfl ⟨Nat.le_of_ble_eq_true rfl, Nat.le_of_ble_eq_true rfl⟩ wc_21 rfl (Nat.le_of_ble_eq_true rfl) (Nat.le_of_ble_eq_true rfl) (Nat.le_of_ble_eq_true rfl) (fun L2 hL2 => ?_)
  refine rn_eq (ws' := ((h0, .inr (2, [.null, .null, .ref q1, .null, .int 0, .int 0, .int 0, .int 0, .int 0, .int 0])) :: ((([] : va_W) ++ L1) ++ L2))) (k' := 4) (n' := 14) rfl rfl rfl ?_
  refine rn_putF (j := 3) (i0 := 0) (ws' := ((h0, .inr (2, [.null, .null, .ref q1, .ref q2, .int 0, .int 0, .int 0, .int 0, .int 0, .int 0])) :: ((([] : va_W) ++ L1) ++ L2))) (pc' := 26) cls_X2 dX2_init_23 rfl rfl (by decide) wc_23 rfl rfl rfl rfl (Nat.le_of_ble_eq_true rfl) rfl ?_
  refine rn_aload_n (pc' := 27) dX2_init_26 rfl rfl (List.mem_of_getElem? (i := 0) rfl) ?_
  refine rn_iconst (v := 0) (pc' := 28) dX2_init_27 rfl (by decide) ?_
  refine rn_put (j := 4) (i0 := 0) (ws' := ((h0, .inr (2, [.null, .null, .ref q1, .ref q2, .int 0, .int 0, .int 0, .int 0, .int 0, .int 0])) :: ((([] : va_W) ++ L1) ++ L2))) (pc' := 31) cls_X2 dX2_init_28 rfl rfl (by decide) wc_24 rfl rfl rfl (Nat.le_of_ble_eq_true rfl) rfl ?_
  refine rn_aload_n (pc' := 32) dX2_init_31 rfl rfl (List.mem_of_getElem? (i := 0) rfl) ?_
  refine rn_iconst (v := 0) (pc' := 33) dX2_init_32 rfl (by decide) ?_
  refine rn_put (j := 5) (i0 := 0) (ws' := ((h0, .inr (2, [.null, .null, .ref q1, .ref q2, .int 0, .int 0, .int 0, .int 0, .int 0, .int 0])) :: ((([] : va_W) ++ L1) ++ L2))) (pc' := 36) cls_X2 dX2_init_33 rfl rfl (by decide) wc_25 rfl rfl rfl (Nat.le_of_ble_eq_true rfl) rfl ?_
  refine rn_aload_n (pc' := 37) dX2_init_36 rfl rfl (List.mem_of_getElem? (i := 0) rfl) ?_
  refine rn_bipush (v := -4) (pc' := 39) dX2_init_37 rfl (by decide) ?_
  refine rn_put (j := 6) (i0 := 0) (ws' := ((h0, .inr (2, [.null, .null, .ref q1, .ref q2, .int 0, .int 0, .int (-4), .int 0, .int 0, .int 0])) :: ((([] : va_W) ++ L1) ++ L2))) (pc' := 42) cls_X2 dX2_init_39 rfl rfl (by decide) wc_26 rfl rfl rfl (Nat.le_of_ble_eq_true rfl) rfl ?_
  refine rn_aload_n (pc' := 43) dX2_init_42 rfl rfl (List.mem_of_getElem? (i := 0) rfl) ?_
  refine rn_bipush (v := -4) (pc' := 45) dX2_init_43 rfl (by decide) ?_
  refine rn_put (j := 7) (i0 := 0) (ws' := ((h0, .inr (2, [.null, .null, .ref q1, .ref q2, .int 0, .int 0, .int (-4), .int (-4), .int 0, .int 0])) :: ((([] : va_W) ++ L1) ++ L2))) (pc' := 48) cls_X2 dX2_init_45 rfl rfl (by decide) wc_27 rfl rfl rfl (Nat.le_of_ble_eq_true rfl) rfl ?_
  refine rn_aload_n (pc' := 49) dX2_init_48 rfl rfl (List.mem_of_getElem? (i := 0) rfl) ?_
  refine rn_bipush (v := -4) (pc' := 51) dX2_init_49 rfl (by decide) ?_
  refine rn_put (j := 8) (i0 := 0) (ws' := ((h0, .inr (2, [.null, .null, .ref q1, .ref q2, .int 0, .int 0, .int (-4), .int (-4), .int (-4), .int 0])) :: ((([] : va_W) ++ L1) ++ L2))) (pc' := 54) cls_X2 dX2_init_51 rfl rfl (by decide) wc_28 rfl rfl rfl (Nat.le_of_ble_eq_true rfl) rfl ?_
  refine rn_aload_n (pc' := 55) dX2_init_54 rfl rfl (List.mem_of_getElem? (i := 0) rfl) ?_
  refine rn_bipush (v := -4) (pc' := 57) dX2_init_55 rfl (by decide) ?_
  refine rn_put (j := 9) (i0 := 0) (ws' := ((h0, .inr (2, [.null, .null, .ref q1, .ref q2, .int 0, .int 0, .int (-4), .int (-4), .int (-4), .int (-4)])) :: ((([] : va_W) ++ L1) ++ L2))) (pc' := 60) cls_X2 dX2_init_57 rfl rfl (by decide) wc_29 rfl rfl rfl (Nat.le_of_ble_eq_true rfl) rfl ?_
  refine rn_aload_n (pc' := 61) dX2_init_60 rfl rfl (List.mem_of_getElem? (i := 0) rfl) ?_
  refine rn_aload_n (pc' := 62) dX2_init_61 rfl rfl (List.mem_of_getElem? (i := 1) rfl) ?_
  refine rn_putF (j := 0) (i0 := 0) (ws' := ((h0, .inr (2, [.ref a1, .null, .ref q1, .ref q2, .int 0, .int 0, .int (-4), .int (-4), .int (-4), .int (-4)])) :: ((([] : va_W) ++ L1) ++ L2))) (pc' := 65) cls_X2 dX2_init_62 rfl rfl (by decide) wc_30 rfl rfl rfl rfl (Nat.le_of_ble_eq_true rfl) rfl ?_
  refine rn_aload_n (pc' := 66) dX2_init_65 rfl rfl (List.mem_of_getElem? (i := 0) rfl) ?_
  refine rn_aload_n (pc' := 67) dX2_init_66 rfl rfl (List.mem_of_getElem? (i := 2) rfl) ?_
  refine rn_putF (j := 1) (i0 := 0) (ws' := ((h0, .inr (2, [.ref a1, .ref a2, .ref q1, .ref q2, .int 0, .int 0, .int (-4), .int (-4), .int (-4), .int (-4)])) :: ((([] : va_W) ++ L1) ++ L2))) (pc' := 70) cls_X2 dX2_init_67 rfl rfl (by decide) wc_31 rfl rfl rfl rfl (Nat.le_of_ble_eq_true rfl) rfl ?_
  exact rn_ret dX2_init_70 rfl ⟨q1, L1, q2, L2, hL1, hL2, rfl⟩
def qX3 (G : Nv) (h0 : Nat) (ws : va_W) : Prop := ∃ (q1 : Nat) (q2 : Nat) (L2 : va_W), qX4 G q2 L2 ∧ ws = ((h0, .inr (3, [.ref q1, .int 0, .ref q2, .int 0, .int 0, .int 0, .int 0, .int 0, .int 0, .int 0, .long 0, .int 0])) :: ((([] : va_W) ++ [(q1, .inl (G.2.2.1 1, 400, .inl (fun _ => 0)))]) ++ L2))
theorem c_X3 (l : Launch) (G : Nv) (h0 : Nat) : SpN l G mX3_init [.ref h0] [(h0, .inr (3, [.null, .int 0, .null, .int 0, .int 0, .int 0, .int 0, .int 0, .int 0, .int 0, .long 0, .int 0]))] 9 631 (qX3 G h0) := by
  refine spn_of pn_X3 rfl rfl (Nat.le_of_ble_eq_true rfl) ?_
  refine rn_eq (ws' := ((h0, .inr (3, [.null, .int 0, .null, .int 0, .int 0, .int 0, .int 0, .int 0, .int 0, .int 0, .long 0, .int 0])) :: ([] : va_W))) (k' := 0) (n' := 0) rfl rfl rfl ?_
  refine rn_aload_n (pc' := 1) dX3_init_0 rfl rfl (List.mem_of_getElem? (i := 0) rfl) ?_
  refine rn_objinit (pc' := 4) dX3_init_1 rfl wc_32 wx_0 objcode (Nat.le_of_ble_eq_true rfl) (Nat.le_of_ble_eq_true rfl) ?_
  refine rn_aload_n (pc' := 5) dX3_init_4 rfl rfl (List.mem_of_getElem? (i := 0) rfl) ?_
  refine rn_sipush (v := 400) (pc' := 8) dX3_init_5 rfl (by decide) ?_
  refine rn_arrB (N := 400) (pc' := 10) dX3_init_8 rfl wx_5 (by decide) rfl (Nat.le_of_ble_eq_true rfl) (Nat.le_of_ble_eq_true rfl) (Nat.le_of_ble_eq_true rfl) (fun q1 => ?_)
  refine rn_eq (ws' := ((h0, .inr (3, [.null, .int 0, .null, .int 0, .int 0, .int 0, .int 0, .int 0, .int 0, .int 0, .long 0, .int 0])) :: (([] : va_W) ++ [(q1, .inl (G.2.2.1 1, 400, .inl (fun _ => 0)))]))) (k' := 1) (n' := 400) rfl rfl rfl ?_
  refine rn_putF (j := 0) (i0 := 0) (ws' := ((h0, .inr (3, [.ref q1, .int 0, .null, .int 0, .int 0, .int 0, .int 0, .int 0, .int 0, .int 0, .long 0, .int 0])) :: (([] : va_W) ++ [(q1, .inl (G.2.2.1 1, 400, .inl (fun _ => 0)))]))) (pc' := 13) cls_X3 dX3_init_10 rfl rfl (by decide) wc_33 rfl rfl rfl rfl (Nat.le_of_ble_eq_true rfl) rfl ?_
  refine rn_aload_n (pc' := 14) dX3_init_13 rfl rfl (List.mem_of_getElem? (i := 0) rfl) ?_
  refine rn_iconst (v := 0) (pc' := 15) dX3_init_14 rfl (by decide) ?_
  refine rn_put (j := 1) (i0 := 0) (ws' := ((h0, .inr (3, [.ref q1, .int 0, .null, .int 0, .int 0, .int 0, .int 0, .int 0, .int 0, .int 0, .long 0, .int 0])) :: (([] : va_W) ++ [(q1, .inl (G.2.2.1 1, 400, .inl (fun _ => 0)))]))) (pc' := 18) cls_X3 dX3_init_15 rfl rfl (by decide) wc_34 rfl rfl rfl (Nat.le_of_ble_eq_true rfl) rfl ?_
  refine rn_aload_n (pc' := 19) dX3_init_18 rfl rfl (List.mem_of_getElem? (i := 0) rfl) ?_
  refine rn_new (fs := [.null, .null, .null, .null, .null, .null, .null, .int 0, .long 0, .int 0, .int 0, .int 0]) (pc' := 22) cls_X4 dX3_init_19 rfl wx_6 wx_7 wc_35 (by decide +kernel) (Nat.le_of_ble_eq_true rfl) (Nat.le_of_ble_eq_true rfl) (fun q2 => ?_)
  refine rn_dup (pc' := 23) dX3_init_22 rfl rfl ?_
  refine rn_callI (av := []) (st := [.ref q2, .ref h0]) (wr := ((h0, .inr (3, [.ref q1, .int 0, .null, .int 0, .int 0, .int 0, .int 0, .int 0, .int 0, .int 0, .long 0, .int 0])) :: (([] : va_W) ++ [(q1, .inl (G.2.2.1 1, 400, .inl (fun _ => 0)))]))) (wc := [(q2, .inr (4, [.null, .null, .null, .null, .null, .null, .null, .int 0, .long 0, .int 0, .int 0, .int 0]))]) (pc' := 26) (c_X4 l G q2) dX3_init_23 rfl rfl mg_X4_init mn_X4_init rfl rfl ⟨Nat.le_of_ble_eq_true rfl, Nat.le_of_ble_eq_true rfl⟩ wc_36 rfl (Nat.le_of_ble_eq_true rfl) (Nat.le_of_ble_eq_true rfl) (Nat.le_of_ble_eq_true rfl) (fun L2 hL2 => ?_)
  refine rn_eq (ws' := ((h0, .inr (3, [.ref q1, .int 0, .null, .int 0, .int 0, .int 0, .int 0, .int 0, .int 0, .int 0, .long 0, .int 0])) :: ((([] : va_W) ++ [(q1, .inl (G.2.2.1 1, 400, .inl (fun _ => 0)))]) ++ L2))) (k' := 9) (n' := 631) rfl rfl rfl ?_
  refine rn_putF (j := 2) (i0 := 0) (ws' := ((h0, .inr (3, [.ref q1, .int 0, .ref q2, .int 0, .int 0, .int 0, .int 0, .int 0, .int 0, .int 0, .long 0, .int 0])) :: ((([] : va_W) ++ [(q1, .inl (G.2.2.1 1, 400, .inl (fun _ => 0)))]) ++ L2))) (pc' := 29) cls_X3 dX3_init_26 rfl rfl (by decide) wc_37 rfl rfl rfl rfl (Nat.le_of_ble_eq_true rfl) rfl ?_
  refine rn_aload_n (pc' := 30) dX3_init_29 rfl rfl (List.mem_of_getElem? (i := 0) rfl) ?_
  refine rn_iconst (v := 0) (pc' := 31) dX3_init_30 rfl (by decide) ?_
  refine rn_put (j := 3) (i0 := 0) (ws' := ((h0, .inr (3, [.ref q1, .int 0, .ref q2, .int 0, .int 0, .int 0, .int 0, .int 0, .int 0, .int 0, .long 0, .int 0])) :: ((([] : va_W) ++ [(q1, .inl (G.2.2.1 1, 400, .inl (fun _ => 0)))]) ++ L2))) (pc' := 34) cls_X3 dX3_init_31 rfl rfl (by decide) wc_38 rfl rfl rfl (Nat.le_of_ble_eq_true rfl) rfl ?_
  refine rn_aload_n (pc' := 35) dX3_init_34 rfl rfl (List.mem_of_getElem? (i := 0) rfl) ?_
  refine rn_iconst (v := 0) (pc' := 36) dX3_init_35 rfl (by decide) ?_
  refine rn_put (j := 4) (i0 := 0) (ws' := ((h0, .inr (3, [.ref q1, .int 0, .ref q2, .int 0, .int 0, .int 0, .int 0, .int 0, .int 0, .int 0, .long 0, .int 0])) :: ((([] : va_W) ++ [(q1, .inl (G.2.2.1 1, 400, .inl (fun _ => 0)))]) ++ L2))) (pc' := 39) cls_X3 dX3_init_36 rfl rfl (by decide) wc_39 rfl rfl rfl (Nat.le_of_ble_eq_true rfl) rfl ?_
  refine rn_aload_n (pc' := 40) dX3_init_39 rfl rfl (List.mem_of_getElem? (i := 0) rfl) ?_
  refine rn_iconst (v := 0) (pc' := 41) dX3_init_40 rfl (by decide) ?_
  refine rn_put (j := 5) (i0 := 0) (ws' := ((h0, .inr (3, [.ref q1, .int 0, .ref q2, .int 0, .int 0, .int 0, .int 0, .int 0, .int 0, .int 0, .long 0, .int 0])) :: ((([] : va_W) ++ [(q1, .inl (G.2.2.1 1, 400, .inl (fun _ => 0)))]) ++ L2))) (pc' := 44) cls_X3 dX3_init_41 rfl rfl (by decide) wc_40 rfl rfl rfl (Nat.le_of_ble_eq_true rfl) rfl ?_
  refine rn_aload_n (pc' := 45) dX3_init_44 rfl rfl (List.mem_of_getElem? (i := 0) rfl) ?_
  refine rn_iconst (v := 0) (pc' := 46) dX3_init_45 rfl (by decide) ?_
  refine rn_put (j := 6) (i0 := 0) (ws' := ((h0, .inr (3, [.ref q1, .int 0, .ref q2, .int 0, .int 0, .int 0, .int 0, .int 0, .int 0, .int 0, .long 0, .int 0])) :: ((([] : va_W) ++ [(q1, .inl (G.2.2.1 1, 400, .inl (fun _ => 0)))]) ++ L2))) (pc' := 49) cls_X3 dX3_init_46 rfl rfl (by decide) wc_41 rfl rfl rfl (Nat.le_of_ble_eq_true rfl) rfl ?_
  refine rn_aload_n (pc' := 50) dX3_init_49 rfl rfl (List.mem_of_getElem? (i := 0) rfl) ?_
  refine rn_iconst (v := 0) (pc' := 51) dX3_init_50 rfl (by decide) ?_
  refine rn_put (j := 7) (i0 := 0) (ws' := ((h0, .inr (3, [.ref q1, .int 0, .ref q2, .int 0, .int 0, .int 0, .int 0, .int 0, .int 0, .int 0, .long 0, .int 0])) :: ((([] : va_W) ++ [(q1, .inl (G.2.2.1 1, 400, .inl (fun _ => 0)))]) ++ L2))) (pc' := 54) cls_X3 dX3_init_51 rfl rfl (by decide) wc_42 rfl rfl rfl (Nat.le_of_ble_eq_true rfl) rfl ?_
  refine rn_aload_n (pc' := 55) dX3_init_54 rfl rfl (List.mem_of_getElem? (i := 0) rfl) ?_
  refine rn_iconst (v := 0) (pc' := 56) dX3_init_55 rfl (by decide) ?_
  refine rn_put (j := 8) (i0 := 0) (ws' := ((h0, .inr (3, [.ref q1, .int 0, .ref q2, .int 0, .int 0, .int 0, .int 0, .int 0, .int 0, .int 0, .long 0, .int 0])) :: ((([] : va_W) ++ [(q1, .inl (G.2.2.1 1, 400, .inl (fun _ => 0)))]) ++ L2))) (pc' := 59) cls_X3 dX3_init_56 rfl rfl (by decide) wc_43 rfl rfl rfl (Nat.le_of_ble_eq_true rfl) rfl ?_
  refine rn_aload_n (pc' := 60) dX3_init_59 rfl rfl (List.mem_of_getElem? (i := 0) rfl) ?_
  refine rn_iconst (v := 0) (pc' := 61) dX3_init_60 rfl (by decide) ?_
  refine rn_put (j := 9) (i0 := 0) (ws' := ((h0, .inr (3, [.ref q1, .int 0, .ref q2, .int 0, .int 0, .int 0, .int 0, .int 0, .int 0, .int 0, .long 0, .int 0])) :: ((([] : va_W) ++ [(q1, .inl (G.2.2.1 1, 400, .inl (fun _ => 0)))]) ++ L2))) (pc' := 64) cls_X3 dX3_init_61 rfl rfl (by decide) wc_44 rfl rfl rfl (Nat.le_of_ble_eq_true rfl) rfl ?_
  refine rn_aload_n (pc' := 65) dX3_init_64 rfl rfl (List.mem_of_getElem? (i := 0) rfl) ?_
  refine rn_lconst (v := 0) (pc' := 66) dX3_init_65 rfl rfl ?_
  refine rn_put (j := 10) (i0 := 0) (ws' := ((h0, .inr (3, [.ref q1, .int 0, .ref q2, .int 0, .int 0, .int 0, .int 0, .int 0, .int 0, .int 0, .long 0, .int 0])) :: ((([] : va_W) ++ [(q1, .inl (G.2.2.1 1, 400, .inl (fun _ => 0)))]) ++ L2))) (pc' := 69) cls_X3 dX3_init_66 rfl rfl (by decide) wc_45 rfl rfl rfl (Nat.le_of_ble_eq_true rfl) rfl ?_
  refine rn_aload_n (pc' := 70) dX3_init_69 rfl rfl (List.mem_of_getElem? (i := 0) rfl) ?_
  refine rn_iconst (v := 0) (pc' := 71) dX3_init_70 rfl (by decide) ?_
  refine rn_put (j := 11) (i0 := 0) (ws' := ((h0, .inr (3, [.ref q1, .int 0, .ref q2, .int 0, .int 0, .int 0, .int 0, .int 0, .int 0, .int 0, .long 0, .int 0])) :: ((([] : va_W) ++ [(q1, .inl (G.2.2.1 1, 400, .inl (fun _ => 0)))]) ++ L2))) (pc' := 74) cls_X3 dX3_init_71 rfl rfl (by decide) wc_46 rfl rfl rfl (Nat.le_of_ble_eq_true rfl) rfl ?_
  exact rn_ret dX3_init_74 rfl ⟨q1, q2, L2, hL2, rfl⟩
def qX5 (G : Nv) (h0 a1 : Nat) (ws : va_W) : Prop := ∃ (q1 : Nat) (L1 : va_W) (q2 : Nat) (q3 : Nat) (q4 : Nat) (q5 : Nat) (q6 : Nat) (q7 : Nat), qX1 G q1 L1 ∧ ws = ((h0, .inr (5, [.ref a1, .ref q1, .ref q2, .ref q3, .ref q4, .ref q5, .ref q6, .ref q7, .int 0, .int 0, .int 0, .int 0, .int 0])) :: (((((((([] : va_W) ++ L1) ++ [(q2, .inl (G.2.2.1 0, 5, .inl (fun _ => 0)))]) ++ [(q3, .inl (G.2.2.1 0, 5, .inl (fun _ => 0)))]) ++ [(q4, .inl (G.2.2.1 0, 5, .inl (fun _ => 0)))]) ++ [(q5, .inl (G.2.2.1 0, 5, .inl (fun _ => 0)))]) ++ [(q6, .inl (G.2.2.1 0, 63, .inl (fun _ => 0)))]) ++ [(q7, .inl (G.2.2.1 0, 63, .inl (fun _ => 0)))]))
theorem c_X5 (l : Launch) (G : Nv) (h0 a1 : Nat) : SpN l G mX5_init [.ref h0, .ref a1] [(h0, .inr (5, [.null, .null, .null, .null, .null, .null, .null, .null, .int 0, .int 0, .int 0, .int 0, .int 0]))] 8 153 (qX5 G h0 a1) := by
  refine spn_of pn_X5 rfl rfl (Nat.le_of_ble_eq_true rfl) ?_
  refine rn_eq (ws' := ((h0, .inr (5, [.null, .null, .null, .null, .null, .null, .null, .null, .int 0, .int 0, .int 0, .int 0, .int 0])) :: ([] : va_W))) (k' := 0) (n' := 0) rfl rfl rfl ?_
  refine rn_aload_n (pc' := 1) dX5_init_0 rfl rfl (List.mem_of_getElem? (i := 0) rfl) ?_
  refine rn_objinit (pc' := 4) dX5_init_1 rfl wc_47 wx_0 objcode (Nat.le_of_ble_eq_true rfl) (Nat.le_of_ble_eq_true rfl) ?_
  refine rn_aload_n (pc' := 5) dX5_init_4 rfl rfl (List.mem_of_getElem? (i := 0) rfl) ?_
  refine rn_new (fs := [.null, .int 0]) (pc' := 8) cls_X1 dX5_init_5 rfl wx_8 wx_3 wc_13 (by decide +kernel) (Nat.le_of_ble_eq_true rfl) (Nat.le_of_ble_eq_true rfl) (fun q1 => ?_)
  refine rn_dup (pc' := 9) dX5_init_8 rfl rfl ?_
  refine rn_callI (av := []) (st := [.ref q1, .ref h0]) (wr := ((h0, .inr (5, [.null, .null, .null, .null, .null, .null, .null, .null, .int 0, .int 0, .int 0, .int 0, .int 0])) :: ([] : va_W))) (wc := [(q1, .inr (1, [.null, .int 0]))]) (pc' := 12) (c_X1 l G q1) dX5_init_9 rfl rfl mg_X1_init mn_X1_init rfl rfl ⟨Nat.le_of_ble_eq_true rfl, Nat.le_of_ble_eq_true rfl⟩ wc_48 rfl (Nat.le_of_ble_eq_true rfl) (Nat.le_of_ble_eq_true rfl) (Nat.le_of_ble_eq_true rfl) (fun L1 hL1 => ?_)
  refine rn_eq (ws' := ((h0, .inr (5, [.null, .null, .null, .null, .null, .null, .null, .null, .int 0, .int 0, .int 0, .int 0, .int 0])) :: (([] : va_W) ++ L1))) (k' := 2) (n' := 7) rfl rfl rfl ?_
  refine rn_putF (j := 1) (i0 := 0) (ws' := ((h0, .inr (5, [.null, .ref q1, .null, .null, .null, .null, .null, .null, .int 0, .int 0, .int 0, .int 0, .int 0])) :: (([] : va_W) ++ L1))) (pc' := 15) cls_X5 dX5_init_12 rfl rfl (by decide) wc_49 rfl rfl rfl rfl (Nat.le_of_ble_eq_true rfl) rfl ?_
  refine rn_aload_n (pc' := 16) dX5_init_15 rfl rfl (List.mem_of_getElem? (i := 0) rfl) ?_
  refine rn_iconst (v := 5) (pc' := 17) dX5_init_16 rfl (by decide) ?_
  refine rn_arrI (N := 5) (pc' := 19) dX5_init_17 rfl wx_1 (by decide) rfl (Nat.le_of_ble_eq_true rfl) (Nat.le_of_ble_eq_true rfl) (Nat.le_of_ble_eq_true rfl) (fun q2 => ?_)
  refine rn_eq (ws' := ((h0, .inr (5, [.null, .ref q1, .null, .null, .null, .null, .null, .null, .int 0, .int 0, .int 0, .int 0, .int 0])) :: ((([] : va_W) ++ L1) ++ [(q2, .inl (G.2.2.1 0, 5, .inl (fun _ => 0)))]))) (k' := 3) (n' := 12) rfl rfl rfl ?_
  refine rn_putF (j := 2) (i0 := 0) (ws' := ((h0, .inr (5, [.null, .ref q1, .ref q2, .null, .null, .null, .null, .null, .int 0, .int 0, .int 0, .int 0, .int 0])) :: ((([] : va_W) ++ L1) ++ [(q2, .inl (G.2.2.1 0, 5, .inl (fun _ => 0)))]))) (pc' := 22) cls_X5 dX5_init_19 rfl rfl (by decide) wc_50 rfl rfl rfl rfl (Nat.le_of_ble_eq_true rfl) rfl ?_
  refine rn_aload_n (pc' := 23) dX5_init_22 rfl rfl (List.mem_of_getElem? (i := 0) rfl) ?_
  refine rn_iconst (v := 5) (pc' := 24) dX5_init_23 rfl (by decide) ?_
  refine rn_arrI (N := 5) (pc' := 26) dX5_init_24 rfl wx_1 (by decide) rfl (Nat.le_of_ble_eq_true rfl) (Nat.le_of_ble_eq_true rfl) (Nat.le_of_ble_eq_true rfl) (fun q3 => ?_)
  refine rn_eq (ws' := ((h0, .inr (5, [.null, .ref q1, .ref q2, .null, .null, .null, .null, .null, .int 0, .int 0, .int 0, .int 0, .int 0])) :: (((([] : va_W) ++ L1) ++ [(q2, .inl (G.2.2.1 0, 5, .inl (fun _ => 0)))]) ++ [(q3, .inl (G.2.2.1 0, 5, .inl (fun _ => 0)))]))) (k' := 4) (n' := 17) rfl rfl rfl ?_
  refine rn_putF (j := 3) (i0 := 0) (ws' := ((h0, .inr (5, [.null, .ref q1, .ref q2, .ref q3, .null, .null, .null, .null, .int 0, .int 0, .int 0, .int 0, .int 0])) :: (((([] : va_W) ++ L1) ++ [(q2, .inl (G.2.2.1 0, 5, .inl (fun _ => 0)))]) ++ [(q3, .inl (G.2.2.1 0, 5, .inl (fun _ => 0)))]))) (pc' := 29) cls_X5 dX5_init_26 rfl rfl (by decide) wc_51 rfl rfl rfl rfl (Nat.le_of_ble_eq_true rfl) rfl ?_
  refine rn_aload_n (pc' := 30) dX5_init_29 rfl rfl (List.mem_of_getElem? (i := 0) rfl) ?_
  refine rn_iconst (v := 5) (pc' := 31) dX5_init_30 rfl (by decide) ?_
  refine rn_arrI (N := 5) (pc' := 33) dX5_init_31 rfl wx_1 (by decide) rfl (Nat.le_of_ble_eq_true rfl) (Nat.le_of_ble_eq_true rfl) (Nat.le_of_ble_eq_true rfl) (fun q4 => ?_)
  refine rn_eq (ws' := ((h0, .inr (5, [.null, .ref q1, .ref q2, .ref q3, .null, .null, .null, .null, .int 0, .int 0, .int 0, .int 0, .int 0])) :: ((((([] : va_W) ++ L1) ++ [(q2, .inl (G.2.2.1 0, 5, .inl (fun _ => 0)))]) ++ [(q3, .inl (G.2.2.1 0, 5, .inl (fun _ => 0)))]) ++ [(q4, .inl (G.2.2.1 0, 5, .inl (fun _ => 0)))]))) (k' := 5) (n' := 22) rfl rfl rfl ?_
  refine rn_putF (j := 4) (i0 := 0) (ws' := ((h0, .inr (5, [.null, .ref q1, .ref q2, .ref q3, .ref q4, .null, .null, .null, .int 0, .int 0, .int 0, .int 0, .int 0])) :: ((((([] : va_W) ++ L1) ++ [(q2, .inl (G.2.2.1 0, 5, .inl (fun _ => 0)))]) ++ [(q3, .inl (G.2.2.1 0, 5, .inl (fun _ => 0)))]) ++ [(q4, .inl (G.2.2.1 0, 5, .inl (fun _ => 0)))]))) (pc' := 36) cls_X5 dX5_init_33 rfl rfl (by decide) wc_52 rfl rfl rfl rfl (Nat.le_of_ble_eq_true rfl) rfl ?_
  refine rn_aload_n (pc' := 37) dX5_init_36 rfl rfl (List.mem_of_getElem? (i := 0) rfl) ?_
  refine rn_iconst (v := 5) (pc' := 38) dX5_init_37 rfl (by decide) ?_
  refine rn_arrI (N := 5) (pc' := 40) dX5_init_38 rfl wx_1 (by decide) rfl (Nat.le_of_ble_eq_true rfl) (Nat.le_of_ble_eq_true rfl) (Nat.le_of_ble_eq_true rfl) (fun q5 => ?_)
  refine rn_eq (ws' := ((h0, .inr (5, [.null, .ref q1, .ref q2, .ref q3, .ref q4, .null, .null, .null, .int 0, .int 0, .int 0, .int 0, .int 0])) :: (((((([] : va_W) ++ L1) ++ [(q2, .inl (G.2.2.1 0, 5, .inl (fun _ => 0)))]) ++ [(q3, .inl (G.2.2.1 0, 5, .inl (fun _ => 0)))]) ++ [(q4, .inl (G.2.2.1 0, 5, .inl (fun _ => 0)))]) ++ [(q5, .inl (G.2.2.1 0, 5, .inl (fun _ => 0)))]))) (k' := 6) (n' := 27) rfl rfl rfl ?_
  refine rn_putF (j := 5) (i0 := 0) (ws' := ((h0, .inr (5, [.null, .ref q1, .ref q2, .ref q3, .ref q4, .ref q5, .null, .null, .int 0, .int 0, .int 0, .int 0, .int 0])) :: (((((([] : va_W) ++ L1) ++ [(q2, .inl (G.2.2.1 0, 5, .inl (fun _ => 0)))]) ++ [(q3, .inl (G.2.2.1 0, 5, .inl (fun _ => 0)))]) ++ [(q4, .inl (G.2.2.1 0, 5, .inl (fun _ => 0)))]) ++ [(q5, .inl (G.2.2.1 0, 5, .inl (fun _ => 0)))]))) (pc' := 43) cls_X5 dX5_init_40 rfl rfl (by decide) wc_53 rfl rfl rfl rfl (Nat.le_of_ble_eq_true rfl) rfl ?_
  refine rn_aload_n (pc' := 44) dX5_init_43 rfl rfl (List.mem_of_getElem? (i := 0) rfl) ?_
  refine rn_bipush (v := 63) (pc' := 46) dX5_init_44 rfl (by decide) ?_
  refine rn_arrI (N := 63) (pc' := 48) dX5_init_46 rfl wx_1 (by decide) rfl (Nat.le_of_ble_eq_true rfl) (Nat.le_of_ble_eq_true rfl) (Nat.le_of_ble_eq_true rfl) (fun q6 => ?_)
  refine rn_eq (ws' := ((h0, .inr (5, [.null, .ref q1, .ref q2, .ref q3, .ref q4, .ref q5, .null, .null, .int 0, .int 0, .int 0, .int 0, .int 0])) :: ((((((([] : va_W) ++ L1) ++ [(q2, .inl (G.2.2.1 0, 5, .inl (fun _ => 0)))]) ++ [(q3, .inl (G.2.2.1 0, 5, .inl (fun _ => 0)))]) ++ [(q4, .inl (G.2.2.1 0, 5, .inl (fun _ => 0)))]) ++ [(q5, .inl (G.2.2.1 0, 5, .inl (fun _ => 0)))]) ++ [(q6, .inl (G.2.2.1 0, 63, .inl (fun _ => 0)))]))) (k' := 7) (n' := 90) rfl rfl rfl ?_
  refine rn_putF (j := 6) (i0 := 0) (ws' := ((h0, .inr (5, [.null, .ref q1, .ref q2, .ref q3, .ref q4, .ref q5, .ref q6, .null, .int 0, .int 0, .int 0, .int 0, .int 0])) :: ((((((([] : va_W) ++ L1) ++ [(q2, .inl (G.2.2.1 0, 5, .inl (fun _ => 0)))]) ++ [(q3, .inl (G.2.2.1 0, 5, .inl (fun _ => 0)))]) ++ [(q4, .inl (G.2.2.1 0, 5, .inl (fun _ => 0)))]) ++ [(q5, .inl (G.2.2.1 0, 5, .inl (fun _ => 0)))]) ++ [(q6, .inl (G.2.2.1 0, 63, .inl (fun _ => 0)))]))) (pc' := 51) cls_X5 dX5_init_48 rfl rfl (by decide) wc_54 rfl rfl rfl rfl (Nat.le_of_ble_eq_true rfl) rfl ?_
  refine rn_aload_n (pc' := 52) dX5_init_51 rfl rfl (List.mem_of_getElem? (i := 0) rfl) ?_
  refine rn_bipush (v := 63) (pc' := 54) dX5_init_52 rfl (by decide) ?_
  refine rn_arrI (N := 63) (pc' := 56) dX5_init_54 rfl wx_1 (by decide) rfl (Nat.le_of_ble_eq_true rfl) (Nat.le_of_ble_eq_true rfl) (Nat.le_of_ble_eq_true rfl) (fun q7 => ?_)
  refine rn_eq (ws' := ((h0, .inr (5, [.null, .ref q1, .ref q2, .ref q3, .ref q4, .ref q5, .ref q6, .null, .int 0, .int 0, .int 0, .int 0, .int 0])) :: (((((((([] : va_W) ++ L1) ++ [(q2, .inl (G.2.2.1 0, 5, .inl (fun _ => 0)))]) ++ [(q3, .inl (G.2.2.1 0, 5, .inl (fun _ => 0)))]) ++ [(q4, .inl (G.2.2.1 0, 5, .inl (fun _ => 0)))]) ++ [(q5, .inl (G.2.2.1 0, 5, .inl (fun _ => 0)))]) ++ [(q6, .inl (G.2.2.1 0, 63, .inl (fun _ => 0)))]) ++ [(q7, .inl (G.2.2.1 0, 63, .inl (fun _ => 0)))]))) (k' := 8) (n' := 153) rfl rfl rfl ?_
  refine rn_putF (j := 7) (i0 := 0) (ws' := ((h0, .inr (5, [.null, .ref q1, .ref q2, .ref q3, .ref q4, .ref q5, .ref q6, .ref q7, .int 0, .int 0, .int 0, .int 0, .int 0])) :: (((((((([] : va_W) ++ L1) ++ [(q2, .inl (G.2.2.1 0, 5, .inl (fun _ => 0)))]) ++ [(q3, .inl (G.2.2.1 0, 5, .inl (fun _ => 0)))]) ++ [(q4, .inl (G.2.2.1 0, 5, .inl (fun _ => 0)))]) ++ [(q5, .inl (G.2.2.1 0, 5, .inl (fun _ => 0)))]) ++ [(q6, .inl (G.2.2.1 0, 63, .inl (fun _ => 0)))]) ++ [(q7, .inl (G.2.2.1 0, 63, .inl (fun _ => 0)))]))) (pc' := 59) cls_X5 dX5_init_56 rfl rfl (by decide) wc_55 rfl rfl rfl rfl (Nat.le_of_ble_eq_true rfl) rfl ?_
  refine rn_aload_n (pc' := 60) dX5_init_59 rfl rfl (List.mem_of_getElem? (i := 0) rfl) ?_
  refine rn_iconst (v := 0) (pc' := 61) dX5_init_60 rfl (by decide) ?_
  refine rn_put (j := 8) (i0 := 0) (ws' := ((h0, .inr (5, [.null, .ref q1, .ref q2, .ref q3, .ref q4, .ref q5, .ref q6, .ref q7, .int 0, .int 0, .int 0, .int 0, .int 0])) :: (((((((([] : va_W) ++ L1) ++ [(q2, .inl (G.2.2.1 0, 5, .inl (fun _ => 0)))]) ++ [(q3, .inl (G.2.2.1 0, 5, .inl (fun _ => 0)))]) ++ [(q4, .inl (G.2.2.1 0, 5, .inl (fun _ => 0)))]) ++ [(q5, .inl (G.2.2.1 0, 5, .inl (fun _ => 0)))]) ++ [(q6, .inl (G.2.2.1 0, 63, .inl (fun _ => 0)))]) ++ [(q7, .inl (G.2.2.1 0, 63, .inl (fun _ => 0)))]))) (pc' := 64) cls_X5 dX5_init_61 rfl rfl (by decide) wc_56 rfl rfl rfl (Nat.le_of_ble_eq_true rfl) rfl ?_
  refine rn_aload_n (pc' := 65) dX5_init_64 rfl rfl (List.mem_of_getElem? (i := 0) rfl) ?_
  refine rn_iconst (v := 0) (pc' := 66) dX5_init_65 rfl (by decide) ?_
  refine rn_put (j := 9) (i0 := 0) (ws' := ((h0, .inr (5, [.null, .ref q1, .ref q2, .ref q3, .ref q4, .ref q5, .ref q6, .ref q7, .int 0, .int 0, .int 0, .int 0, .int 0])) :: (((((((([] : va_W) ++ L1) ++ [(q2, .inl (G.2.2.1 0, 5, .inl (fun _ => 0)))]) ++ [(q3, .inl (G.2.2.1 0, 5, .inl (fun _ => 0)))]) ++ [(q4, .inl (G.2.2.1 0, 5, .inl (fun _ => 0)))]) ++ [(q5, .inl (G.2.2.1 0, 5, .inl (fun _ => 0)))]) ++ [(q6, .inl (G.2.2.1 0, 63, .inl (fun _ => 0)))]) ++ [(q7, .inl (G.2.2.1 0, 63, .inl (fun _ => 0)))]))) (pc' := 69) cls_X5 dX5_init_66 rfl rfl (by decide) wc_57 rfl rfl rfl (Nat.le_of_ble_eq_true rfl) rfl ?_
  refine rn_aload_n (pc' := 70) dX5_init_69 rfl rfl (List.mem_of_getElem? (i := 0) rfl) ?_
  refine rn_iconst (v := 0) (pc' := 71) dX5_init_70 rfl (by decide) ?_
  refine rn_put (j := 10) (i0 := 0) (ws' := ((h0, .inr (5, [.null, .ref q1, .ref q2, .ref q3, .ref q4, .ref q5, .ref q6, .ref q7, .int 0, .int 0, .int 0, .int 0, .int 0])) :: (((((((([] : va_W) ++ L1) ++ [(q2, .inl (G.2.2.1 0, 5, .inl (fun _ => 0)))]) ++ [(q3, .inl (G.2.2.1 0, 5, .inl (fun _ => 0)))]) ++ [(q4, .inl (G.2.2.1 0, 5, .inl (fun _ => 0)))]) ++ [(q5, .inl (G.2.2.1 0, 5, .inl (fun _ => 0)))]) ++ [(q6, .inl (G.2.2.1 0, 63, .inl (fun _ => 0)))]) ++ [(q7, .inl (G.2.2.1 0, 63, .inl (fun _ => 0)))]))) (pc' := 74) cls_X5 dX5_init_71 rfl rfl (by decide) wc_58 rfl rfl rfl (Nat.le_of_ble_eq_true rfl) rfl ?_
  refine rn_aload_n (pc' := 75) dX5_init_74 rfl rfl (List.mem_of_getElem? (i := 0) rfl) ?_
  refine rn_iconst (v := 0) (pc' := 76) dX5_init_75 rfl (by decide) ?_
  refine rn_put (j := 11) (i0 := 0) (ws' := ((h0, .inr (5, [.null, .ref q1, .ref q2, .ref q3, .ref q4, .ref q5, .ref q6, .ref q7, .int 0, .int 0, .int 0, .int 0, .int 0])) :: (((((((([] : va_W) ++ L1) ++ [(q2, .inl (G.2.2.1 0, 5, .inl (fun _ => 0)))]) ++ [(q3, .inl (G.2.2.1 0, 5, .inl (fun _ => 0)))]) ++ [(q4, .inl (G.2.2.1 0, 5, .inl (fun _ => 0)))]) ++ [(q5, .inl (G.2.2.1 0, 5, .inl (fun _ => 0)))]) ++ [(q6, .inl (G.2.2.1 0, 63, .inl (fun _ => 0)))]) ++ [(q7, .inl (G.2.2.1 0, 63, .inl (fun _ => 0)))]))) (pc' := 79) cls_X5 dX5_init_76 rfl rfl (by decide) wc_59 rfl rfl rfl (Nat.le_of_ble_eq_true rfl) rfl ?_
  refine rn_aload_n (pc' := 80) dX5_init_79 rfl rfl (List.mem_of_getElem? (i := 0) rfl) ?_
  refine rn_iconst (v := 0) (pc' := 81) dX5_init_80 rfl (by decide) ?_
  refine rn_put (j := 12) (i0 := 0) (ws' := ((h0, .inr (5, [.null, .ref q1, .ref q2, .ref q3, .ref q4, .ref q5, .ref q6, .ref q7, .int 0, .int 0, .int 0, .int 0, .int 0])) :: (((((((([] : va_W) ++ L1) ++ [(q2, .inl (G.2.2.1 0, 5, .inl (fun _ => 0)))]) ++ [(q3, .inl (G.2.2.1 0, 5, .inl (fun _ => 0)))]) ++ [(q4, .inl (G.2.2.1 0, 5, .inl (fun _ => 0)))]) ++ [(q5, .inl (G.2.2.1 0, 5, .inl (fun _ => 0)))]) ++ [(q6, .inl (G.2.2.1 0, 63, .inl (fun _ => 0)))]) ++ [(q7, .inl (G.2.2.1 0, 63, .inl (fun _ => 0)))]))) (pc' := 84) cls_X5 dX5_init_81 rfl rfl (by decide) wc_60 rfl rfl rfl (Nat.le_of_ble_eq_true rfl) rfl ?_
  refine rn_aload_n (pc' := 85) dX5_init_84 rfl rfl (List.mem_of_getElem? (i := 0) rfl) ?_
  refine rn_aload_n (pc' := 86) dX5_init_85 rfl rfl (List.mem_of_getElem? (i := 1) rfl) ?_
  refine rn_putF (j := 0) (i0 := 0) (ws' := ((h0, .inr (5, [.ref a1, .ref q1, .ref q2, .ref q3, .ref q4, .ref q5, .ref q6, .ref q7, .int 0, .int 0, .int 0, .int 0, .int 0])) :: (((((((([] : va_W) ++ L1) ++ [(q2, .inl (G.2.2.1 0, 5, .inl (fun _ => 0)))]) ++ [(q3, .inl (G.2.2.1 0, 5, .inl (fun _ => 0)))]) ++ [(q4, .inl (G.2.2.1 0, 5, .inl (fun _ => 0)))]) ++ [(q5, .inl (G.2.2.1 0, 5, .inl (fun _ => 0)))]) ++ [(q6, .inl (G.2.2.1 0, 63, .inl (fun _ => 0)))]) ++ [(q7, .inl (G.2.2.1 0, 63, .inl (fun _ => 0)))]))) (pc' := 89) cls_X5 dX5_init_86 rfl rfl (by decide) wc_61 rfl rfl rfl rfl (Nat.le_of_ble_eq_true rfl) rfl ?_
  exact rn_ret dX5_init_89 rfl ⟨q1, L1, q2, q3, q4, q5, q6, q7, hL1, rfl⟩
def qX6 (G : Nv) (h0 : Nat) (ws : va_W) : Prop := ∃ (q1 : Nat) (q2 : Nat) (q3 : Nat), ws = ((h0, .inr (6, [.ref q1, .ref q2, .ref q3, .int 0])) :: (((([] : va_W) ++ [(q1, .inl (G.2.2.1 0, 160, .inl (fun _ => 0)))]) ++ [(q2, .inl (G.2.2.1 0, 4, .inl (fun _ => 0)))]) ++ [(q3, .inl (G.2.2.1 0, 4, .inl (upd (upd (upd (upd (fun _ => 0) 0 (-4)) 1 (-4)) 2 (-4)) 3 (-4))))]))
theorem c_X6 (l : Launch) (G : Nv) (h0 : Nat) : SpN l G mX6_init [.ref h0] [(h0, .inr (6, [.null, .null, .null, .int 0]))] 3 168 (qX6 G h0) := by
  refine spn_of pn_X6 rfl rfl (Nat.le_of_ble_eq_true rfl) ?_
  refine rn_eq (ws' := ((h0, .inr (6, [.null, .null, .null, .int 0])) :: ([] : va_W))) (k' := 0) (n' := 0) rfl rfl rfl ?_
  refine rn_aload_n (pc' := 1) dX6_init_0 rfl rfl (List.mem_of_getElem? (i := 0) rfl) ?_
  refine rn_objinit (pc' := 4) dX6_init_1 rfl wc_62 wx_0 objcode (Nat.le_of_ble_eq_true rfl) (Nat.le_of_ble_eq_true rfl) ?_
  refine rn_aload_n (pc' := 5) dX6_init_4 rfl rfl (List.mem_of_getElem? (i := 0) rfl) ?_
  refine rn_sipush (v := 160) (pc' := 8) dX6_init_5 rfl (by decide) ?_
  refine rn_arrI (N := 160) (pc' := 10) dX6_init_8 rfl wx_1 (by decide) rfl (Nat.le_of_ble_eq_true rfl) (Nat.le_of_ble_eq_true rfl) (Nat.le_of_ble_eq_true rfl) (fun q1 => ?_)
  refine rn_eq (ws' := ((h0, .inr (6, [.null, .null, .null, .int 0])) :: (([] : va_W) ++ [(q1, .inl (G.2.2.1 0, 160, .inl (fun _ => 0)))]))) (k' := 1) (n' := 160) rfl rfl rfl ?_
  refine rn_putF (j := 0) (i0 := 0) (ws' := ((h0, .inr (6, [.ref q1, .null, .null, .int 0])) :: (([] : va_W) ++ [(q1, .inl (G.2.2.1 0, 160, .inl (fun _ => 0)))]))) (pc' := 13) cls_X6 dX6_init_10 rfl rfl (by decide) wc_63 rfl rfl rfl rfl (Nat.le_of_ble_eq_true rfl) rfl ?_
  refine rn_aload_n (pc' := 14) dX6_init_13 rfl rfl (List.mem_of_getElem? (i := 0) rfl) ?_
  refine rn_iconst (v := 4) (pc' := 15) dX6_init_14 rfl (by decide) ?_
  refine rn_arrI (N := 4) (pc' := 17) dX6_init_15 rfl wx_1 (by decide) rfl (Nat.le_of_ble_eq_true rfl) (Nat.le_of_ble_eq_true rfl) (Nat.le_of_ble_eq_true rfl) (fun q2 => ?_)
  refine rn_eq (ws' := ((h0, .inr (6, [.ref q1, .null, .null, .int 0])) :: ((([] : va_W) ++ [(q1, .inl (G.2.2.1 0, 160, .inl (fun _ => 0)))]) ++ [(q2, .inl (G.2.2.1 0, 4, .inl (fun _ => 0)))]))) (k' := 2) (n' := 164) rfl rfl rfl ?_
  refine rn_putF (j := 1) (i0 := 0) (ws' := ((h0, .inr (6, [.ref q1, .ref q2, .null, .int 0])) :: ((([] : va_W) ++ [(q1, .inl (G.2.2.1 0, 160, .inl (fun _ => 0)))]) ++ [(q2, .inl (G.2.2.1 0, 4, .inl (fun _ => 0)))]))) (pc' := 20) cls_X6 dX6_init_17 rfl rfl (by decide) wc_64 rfl rfl rfl rfl (Nat.le_of_ble_eq_true rfl) rfl ?_
  refine rn_aload_n (pc' := 21) dX6_init_20 rfl rfl (List.mem_of_getElem? (i := 0) rfl) ?_
  refine rn_iconst (v := 4) (pc' := 22) dX6_init_21 rfl (by decide) ?_
  refine rn_arrI (N := 4) (pc' := 24) dX6_init_22 rfl wx_1 (by decide) rfl (Nat.le_of_ble_eq_true rfl) (Nat.le_of_ble_eq_true rfl) (Nat.le_of_ble_eq_true rfl) (fun q3 => ?_)
  refine rn_eq (ws' := ((h0, .inr (6, [.ref q1, .ref q2, .null, .int 0])) :: (((([] : va_W) ++ [(q1, .inl (G.2.2.1 0, 160, .inl (fun _ => 0)))]) ++ [(q2, .inl (G.2.2.1 0, 4, .inl (fun _ => 0)))]) ++ [(q3, .inl (G.2.2.1 0, 4, .inl (fun _ => 0)))]))) (k' := 3) (n' := 168) rfl rfl rfl ?_
  refine rn_dup (pc' := 25) dX6_init_24 rfl rfl ?_
  refine rn_iconst (v := 0) (pc' := 26) dX6_init_25 rfl (by decide) ?_
  refine rn_bipush (v := -4) (pc' := 28) dX6_init_26 rfl (by decide) ?_
  refine rn_iast (i0 := 3) (ws' := ((h0, .inr (6, [.ref q1, .ref q2, .null, .int 0])) :: (((([] : va_W) ++ [(q1, .inl (G.2.2.1 0, 160, .inl (fun _ => 0)))]) ++ [(q2, .inl (G.2.2.1 0, 4, .inl (fun _ => 0)))]) ++ [(q3, .inl (G.2.2.1 0, 4, .inl (upd (fun _ => 0) 0 (-4))))]))) (pc' := 29) dX6_init_28 rfl rfl (vp_in_lit (by decide)) rfl ?_
  refine rn_dup (pc' := 30) dX6_init_29 rfl rfl ?_
  refine rn_iconst (v := 1) (pc' := 31) dX6_init_30 rfl (by decide) ?_
  refine rn_bipush (v := -4) (pc' := 33) dX6_init_31 rfl (by decide) ?_
  refine rn_iast (i0 := 3) (ws' := ((h0, .inr (6, [.ref q1, .ref q2, .null, .int 0])) :: (((([] : va_W) ++ [(q1, .inl (G.2.2.1 0, 160, .inl (fun _ => 0)))]) ++ [(q2, .inl (G.2.2.1 0, 4, .inl (fun _ => 0)))]) ++ [(q3, .inl (G.2.2.1 0, 4, .inl (upd (upd (fun _ => 0) 0 (-4)) 1 (-4))))]))) (pc' := 34) dX6_init_33 rfl rfl (vp_in_lit (by decide)) rfl ?_
  refine rn_dup (pc' := 35) dX6_init_34 rfl rfl ?_
  refine rn_iconst (v := 2) (pc' := 36) dX6_init_35 rfl (by decide) ?_
  refine rn_bipush (v := -4) (pc' := 38) dX6_init_36 rfl (by decide) ?_
  refine rn_iast (i0 := 3) (ws' := ((h0, .inr (6, [.ref q1, .ref q2, .null, .int 0])) :: (((([] : va_W) ++ [(q1, .inl (G.2.2.1 0, 160, .inl (fun _ => 0)))]) ++ [(q2, .inl (G.2.2.1 0, 4, .inl (fun _ => 0)))]) ++ [(q3, .inl (G.2.2.1 0, 4, .inl (upd (upd (upd (fun _ => 0) 0 (-4)) 1 (-4)) 2 (-4))))]))) (pc' := 39) dX6_init_38 rfl rfl (vp_in_lit (by decide)) rfl ?_
  refine rn_dup (pc' := 40) dX6_init_39 rfl rfl ?_
  refine rn_iconst (v := 3) (pc' := 41) dX6_init_40 rfl (by decide) ?_
  refine rn_bipush (v := -4) (pc' := 43) dX6_init_41 rfl (by decide) ?_
  refine rn_iast (i0 := 3) (ws' := ((h0, .inr (6, [.ref q1, .ref q2, .null, .int 0])) :: (((([] : va_W) ++ [(q1, .inl (G.2.2.1 0, 160, .inl (fun _ => 0)))]) ++ [(q2, .inl (G.2.2.1 0, 4, .inl (fun _ => 0)))]) ++ [(q3, .inl (G.2.2.1 0, 4, .inl (upd (upd (upd (upd (fun _ => 0) 0 (-4)) 1 (-4)) 2 (-4)) 3 (-4))))]))) (pc' := 44) dX6_init_43 rfl rfl (vp_in_lit (by decide)) rfl ?_
  refine rn_putF (j := 2) (i0 := 0) (ws' := ((h0, .inr (6, [.ref q1, .ref q2, .ref q3, .int 0])) :: (((([] : va_W) ++ [(q1, .inl (G.2.2.1 0, 160, .inl (fun _ => 0)))]) ++ [(q2, .inl (G.2.2.1 0, 4, .inl (fun _ => 0)))]) ++ [(q3, .inl (G.2.2.1 0, 4, .inl (upd (upd (upd (upd (fun _ => 0) 0 (-4)) 1 (-4)) 2 (-4)) 3 (-4))))]))) (pc' := 47) cls_X6 dX6_init_44 rfl rfl (by decide) wc_65 rfl rfl rfl rfl (Nat.le_of_ble_eq_true rfl) rfl ?_
  refine rn_aload_n (pc' := 48) dX6_init_47 rfl rfl (List.mem_of_getElem? (i := 0) rfl) ?_
  refine rn_iconst (v := 0) (pc' := 49) dX6_init_48 rfl (by decide) ?_
  refine rn_put (j := 3) (i0 := 0) (ws' := ((h0, .inr (6, [.ref q1, .ref q2, .ref q3, .int 0])) :: (((([] : va_W) ++ [(q1, .inl (G.2.2.1 0, 160, .inl (fun _ => 0)))]) ++ [(q2, .inl (G.2.2.1 0, 4, .inl (fun _ => 0)))]) ++ [(q3, .inl (G.2.2.1 0, 4, .inl (upd (upd (upd (upd (fun _ => 0) 0 (-4)) 1 (-4)) 2 (-4)) 3 (-4))))]))) (pc' := 52) cls_X6 dX6_init_49 rfl rfl (by decide) wc_66 rfl rfl rfl (Nat.le_of_ble_eq_true rfl) rfl ?_
  exact rn_ret dX6_init_52 rfl ⟨q1, q2, q3, rfl⟩
def qX7 (G : Nv) (h0 a1 : Nat) (ws : va_W) : Prop := ∃ (q1 : Nat), ws = ((h0, .inr (7, [.ref a1, .ref q1, .int 0, .int 1])) :: (([] : va_W) ++ [(q1, .inl (G.2.2.1 0, 63, .inl (fun _ => 0)))]))
theorem c_X7 (l : Launch) (G : Nv) (h0 a1 : Nat) : SpN l G mX7_init [.ref h0, .ref a1] [(h0, .inr (7, [.null, .null, .int 0, .int 0]))] 1 63 (qX7 G h0 a1) := by
  refine spn_of pn_X7 rfl rfl (Nat.le_of_ble_eq_true rfl) ?_
  refine rn_eq (ws' := ((h0, .inr (7, [.null, .null, .int 0, .int 0])) :: ([] : va_W))) (k' := 0) (n' := 0) rfl rfl rfl ?_
  refine rn_aload_n (pc' := 1) dX7_init_0 rfl rfl (List.mem_of_getElem? (i := 0) rfl) ?_
  refine rn_objinit (pc' := 4) dX7_init_1 rfl wc_67 wx_0 objcode (Nat.le_of_ble_eq_true rfl) (Nat.le_of_ble_eq_true rfl) ?_
  refine rn_aload_n (pc' := 5) dX7_init_4 rfl rfl (List.mem_of_getElem? (i := 0) rfl) ?_
  refine rn_bipush (v := 63) (pc' := 7) dX7_init_5 rfl (by decide) ?_
  refine rn_arrI (N := 63) (pc' := 9) dX7_init_7 rfl wx_1 (by decide) rfl (Nat.le_of_ble_eq_true rfl) (Nat.le_of_ble_eq_true rfl) (Nat.le_of_ble_eq_true rfl) (fun q1 => ?_)
  refine rn_eq (ws' := ((h0, .inr (7, [.null, .null, .int 0, .int 0])) :: (([] : va_W) ++ [(q1, .inl (G.2.2.1 0, 63, .inl (fun _ => 0)))]))) (k' := 1) (n' := 63) rfl rfl rfl ?_
  refine rn_putF (j := 1) (i0 := 0) (ws' := ((h0, .inr (7, [.null, .ref q1, .int 0, .int 0])) :: (([] : va_W) ++ [(q1, .inl (G.2.2.1 0, 63, .inl (fun _ => 0)))]))) (pc' := 12) cls_X7 dX7_init_9 rfl rfl (by decide) wc_68 rfl rfl rfl rfl (Nat.le_of_ble_eq_true rfl) rfl ?_
  refine rn_aload_n (pc' := 13) dX7_init_12 rfl rfl (List.mem_of_getElem? (i := 0) rfl) ?_
  refine rn_iconst (v := 0) (pc' := 14) dX7_init_13 rfl (by decide) ?_
  refine rn_put (j := 2) (i0 := 0) (ws' := ((h0, .inr (7, [.null, .ref q1, .int 0, .int 0])) :: (([] : va_W) ++ [(q1, .inl (G.2.2.1 0, 63, .inl (fun _ => 0)))]))) (pc' := 17) cls_X7 dX7_init_14 rfl rfl (by decide) wc_69 rfl rfl rfl (Nat.le_of_ble_eq_true rfl) rfl ?_
  refine rn_aload_n (pc' := 18) dX7_init_17 rfl rfl (List.mem_of_getElem? (i := 0) rfl) ?_
  refine rn_iconst (v := 1) (pc' := 19) dX7_init_18 rfl (by decide) ?_
  refine rn_put (j := 3) (i0 := 0) (ws' := ((h0, .inr (7, [.null, .ref q1, .int 0, .int 1])) :: (([] : va_W) ++ [(q1, .inl (G.2.2.1 0, 63, .inl (fun _ => 0)))]))) (pc' := 22) cls_X7 dX7_init_19 rfl rfl (by decide) wc_70 rfl rfl rfl (Nat.le_of_ble_eq_true rfl) rfl ?_
  refine rn_aload_n (pc' := 23) dX7_init_22 rfl rfl (List.mem_of_getElem? (i := 0) rfl) ?_
  refine rn_aload_n (pc' := 24) dX7_init_23 rfl rfl (List.mem_of_getElem? (i := 1) rfl) ?_
  refine rn_putF (j := 0) (i0 := 0) (ws' := ((h0, .inr (7, [.ref a1, .ref q1, .int 0, .int 1])) :: (([] : va_W) ++ [(q1, .inl (G.2.2.1 0, 63, .inl (fun _ => 0)))]))) (pc' := 27) cls_X7 dX7_init_24 rfl rfl (by decide) wc_71 rfl rfl rfl rfl (Nat.le_of_ble_eq_true rfl) rfl ?_
  exact rn_ret dX7_init_27 rfl ⟨q1, rfl⟩
def qX8 (G : Nv) (h0 : Nat) (ws : va_W) : Prop := ∃ (q1 : Nat) (L1 : va_W) (q2 : Nat) (L2 : va_W) (q3 : Nat) (L3 : va_W) (q4 : Nat) (L4 : va_W) (q5 : Nat) (L5 : va_W) (q6 : Nat) (L6 : va_W) (q7 : Nat) (L7 : va_W) (q8 : Nat) (L8 : va_W) (q9 : Nat) (L9 : va_W) (q10 : Nat) (L10 : va_W), qX4 G q1 L1 ∧ qX4 G q2 L2 ∧ qX4 G q3 L3 ∧ qX3 G q4 L4 ∧ qX5 G q5 q1 L5 ∧ qX1 G q6 L6 ∧ qX2 G q7 q1 q5 L7 ∧ qX7 G q8 q1 L8 ∧ qX0 G q9 q1 L9 ∧ qX6 G q10 L10 ∧ ws = ((h0, .inr (8, [.ref q1, .ref q2, .ref q3, .ref q4, .ref q5, .ref q6, .ref q7, .ref q8, .ref q9, .ref q10, .int 0])) :: ((((((((((([] : va_W) ++ L1) ++ L2) ++ L3) ++ L4) ++ L5) ++ L6) ++ L7) ++ L8) ++ L9) ++ L10))
theorem c_X8 (l : Launch) (G : Nv) (h0 : Nat) : SpN l G mX8_init [.ref h0] [(h0, .inr (8, [.null, .null, .null, .null, .null, .null, .null, .null, .null, .null, .int 0]))] 60 1789 (qX8 G h0) := by
  refine spn_of pn_X8 rfl rfl (Nat.le_of_ble_eq_true rfl) ?_
  refine rn_eq (ws' := ((h0, .inr (8, [.null, .null, .null, .null, .null, .null, .null, .null, .null, .null, .int 0])) :: ([] : va_W))) (k' := 0) (n' := 0) rfl rfl rfl ?_
  refine rn_aload_n (pc' := 1) dX8_init_0 rfl rfl (List.mem_of_getElem? (i := 0) rfl) ?_
  refine rn_objinit (pc' := 4) dX8_init_1 rfl wc_72 wx_0 objcode (Nat.le_of_ble_eq_true rfl) (Nat.le_of_ble_eq_true rfl) ?_
  refine rn_aload_n (pc' := 5) dX8_init_4 rfl rfl (List.mem_of_getElem? (i := 0) rfl) ?_
  refine rn_new (fs := [.null, .null, .null, .null, .null, .null, .null, .int 0, .long 0, .int 0, .int 0, .int 0]) (pc' := 8) cls_X4 dX8_init_5 rfl wx_9 wx_7 wc_35 (by decide +kernel) (Nat.le_of_ble_eq_true rfl) (Nat.le_of_ble_eq_true rfl) (fun q1 => ?_)
  refine rn_dup (pc' := 9) dX8_init_8 rfl rfl ?_
  refine rn_callI (av := []) (st := [.ref q1, .ref h0]) (wr := ((h0, .inr (8, [.null, .null, .null, .null, .null, .null, .null, .null, .null, .null, .int 0])) :: ([] : va_W))) (wc := [(q1, .inr (4, [.null, .null, .null, .null, .null, .null, .null, .int 0, .long 0, .int 0, .int 0, .int 0]))]) (pc' := 12) (c_X4 l G q1) dX8_init_9 rfl rfl mg_X4_init mn_X4_init rfl rfl ⟨Nat.le_of_ble_eq_true rfl, Nat.le_of_ble_eq_true rfl⟩ wc_73 rfl (Nat.le_of_ble_eq_true rfl) (Nat.le_of_ble_eq_true rfl) (Nat.le_of_ble_eq_true rfl) (fun L1 hL1 => ?_)
  refine rn_eq (ws' := ((h0, .inr (8, [.null, .null, .null, .null, .null, .null, .null, .null, .null, .null, .int 0])) :: (([] : va_W) ++ L1))) (k' := 8) (n' := 231) rfl rfl rfl ?_
  refine rn_putF (j := 0) (i0 := 0) (ws' := ((h0, .inr (8, [.ref q1, .null, .null, .null, .null, .null, .null, .null, .null, .null, .int 0])) :: (([] : va_W) ++ L1))) (pc' := 15) cls_X8 dX8_init_12 rfl rfl (by decide) wc_74 rfl rfl rfl rfl (Nat.le_of_ble_eq_true rfl) rfl ?_
  refine rn_aload_n (pc' := 16) dX8_init_15 rfl rfl (List.mem_of_getElem? (i := 0) rfl) ?_
  refine rn_new (fs := [.null, .null, .null, .null, .null, .null, .null, .int 0, .long 0, .int 0, .int 0, .int 0]) (pc' := 19) cls_X4 dX8_init_16 rfl wx_9 wx_7 wc_35 (by decide +kernel) (Nat.le_of_ble_eq_true rfl) (Nat.le_of_ble_eq_true rfl) (fun q2 => ?_)
  refine rn_dup (pc' := 20) dX8_init_19 rfl rfl ?_
  refine rn_callI (av := []) (st := [.ref q2, .ref h0]) (wr := ((h0, .inr (8, [.ref q1, .null, .null, .null, .null, .null, .null, .null, .null, .null, .int 0])) :: (([] : va_W) ++ L1))) (wc := [(q2, .inr (4, [.null, .null, .null, .null, .null, .null, .null, .int 0, .long 0, .int 0, .int 0, .int 0]))]) (pc' := 23) (c_X4 l G q2) dX8_init_20 rfl rfl mg_X4_init mn_X4_init rfl rfl ⟨Nat.le_of_ble_eq_true rfl, Nat.le_of_ble_eq_true rfl⟩ wc_73 rfl (Nat.le_of_ble_eq_true rfl) (Nat.le_of_ble_eq_true rfl) (Nat.le_of_ble_eq_true rfl) (fun L2 hL2 => ?_)
  refine rn_eq (ws' := ((h0, .inr (8, [.ref q1, .null, .null, .null, .null, .null, .null, .null, .null, .null, .int 0])) :: ((([] : va_W) ++ L1) ++ L2))) (k' := 16) (n' := 462) rfl rfl rfl ?_
  refine rn_putF (j := 1) (i0 := 0) (ws' := ((h0, .inr (8, [.ref q1, .ref q2, .null, .null, .null, .null, .null, .null, .null, .null, .int 0])) :: ((([] : va_W) ++ L1) ++ L2))) (pc' := 26) cls_X8 dX8_init_23 rfl rfl (by decide) wc_75 rfl rfl rfl rfl (Nat.le_of_ble_eq_true rfl) rfl ?_
  refine rn_aload_n (pc' := 27) dX8_init_26 rfl rfl (List.mem_of_getElem? (i := 0) rfl) ?_
  refine rn_new (fs := [.null, .null, .null, .null, .null, .null, .null, .int 0, .long 0, .int 0, .int 0, .int 0]) (pc' := 30) cls_X4 dX8_init_27 rfl wx_9 wx_7 wc_35 (by decide +kernel) (Nat.le_of_ble_eq_true rfl) (Nat.le_of_ble_eq_true rfl) (fun q3 => ?_)
  refine rn_dup (pc' := 31) dX8_init_30 rfl rfl ?_
  refine rn_callI (av := []) (st := [.ref q3, .ref h0]) (wr := ((h0, .inr (8, [.ref q1, .ref q2, .null, .null, .null, .null, .null, .null, .null, .null, .int 0])) :: ((([] : va_W) ++ L1) ++ L2))) (wc := [(q3, .inr (4, [.null, .null, .null, .null, .null, .null, .null, .int 0, .long 0, .int 0, .int 0, .int 0]))]) (pc' := 34) (c_X4 l G q3) dX8_init_31 rfl rfl mg_X4_init mn_X4_init rfl rfl ⟨Nat.le_of_ble_eq_true rfl, Nat.le_of_ble_eq_true rfl⟩ wc_73 rfl (Nat.le_of_ble_eq_true rfl) (Nat.le_of_ble_eq_true rfl) (Nat.le_of_ble_eq_true rfl) (fun L3 hL3 => ?_)
  refine rn_eq (ws' := ((h0, .inr (8, [.ref q1, .ref q2, .null, .null, .null, .null, .null, .null, .null, .null, .int 0])) :: (((([] : va_W) ++ L1) ++ L2) ++ L3))) (k' := 24) (n' := 693) rfl rfl rfl ?_
  refine rn_putF (j := 2) (i0 := 0) (ws' := ((h0, .inr (8, [.ref q1, .ref q2, .ref q3, .null, .null, .null, .null, .null, .null, .null, .int 0])) :: (((([] : va_W) ++ L1) ++ L2) ++ L3))) (pc' := 37) cls_X8 dX8_init_34 rfl rfl (by decide) wc_76 rfl rfl rfl rfl (Nat.le_of_ble_eq_true rfl) rfl ?_
  refine rn_aload_n (pc' := 38) dX8_init_37 rfl rfl (List.mem_of_getElem? (i := 0) rfl) ?_
  refine rn_new (fs := [.null, .int 0, .null, .int 0, .int 0, .int 0, .int 0, .int 0, .int 0, .int 0, .long 0, .int 0]) (pc' := 41) cls_X3 dX8_init_38 rfl wx_10 wx_11 wc_77 (by decide +kernel) (Nat.le_of_ble_eq_true rfl) (Nat.le_of_ble_eq_true rfl) (fun q4 => ?_)
  refine rn_dup (pc' := 42) dX8_init_41 rfl rfl ?_
  refine rn_callI (av := []) (st := [.ref q4, .ref h0]) (wr := ((h0, .inr (8, [.ref q1, .ref q2, .ref q3, .null, .null, .null, .null, .null, .null, .null, .int 0])) :: (((([] : va_W) ++ L1) ++ L2) ++ L3))) (wc := [(q4, .inr (3, [.null, .int 0, .null, .int 0, .int 0, .int 0, .int 0, .int 0, .int 0, .int 0, .long 0, .int 0]))]) (pc' := 45) (c_X3 l G q4) dX8_init_42 rfl rfl mg_X3_init mn_X3_init rfl rfl ⟨Nat.le_of_ble_eq_true rfl, Nat.le_of_ble_eq_true rfl⟩ wc_78 rfl (Nat.le_of_ble_eq_true rfl) (Nat.le_of_ble_eq_true rfl) (Nat.le_of_ble_eq_true rfl) (fun L4 hL4 => ?_)
  refine rn_eq (ws' := ((h0, .inr (8, [.ref q1, .ref q2, .ref q3, .null, .null, .null, .null, .null, .null, .null, .int 0])) :: ((((([] : va_W) ++ L1) ++ L2) ++ L3) ++ L4))) (k' := 34) (n' := 1336) rfl rfl rfl ?_
  refine rn_putF (j := 3) (i0 := 0) (ws' := ((h0, .inr (8, [.ref q1, .ref q2, .ref q3, .ref q4, .null, .null, .null, .null, .null, .null, .int 0])) :: ((((([] : va_W) ++ L1) ++ L2) ++ L3) ++ L4))) (pc' := 48) cls_X8 dX8_init_45 rfl rfl (by decide) wc_79 rfl rfl rfl rfl (Nat.le_of_ble_eq_true rfl) rfl ?_
  refine rn_aload_n (pc' := 49) dX8_init_48 rfl rfl (List.mem_of_getElem? (i := 0) rfl) ?_
  refine rn_new (fs := [.null, .null, .null, .null, .null, .null, .null, .null, .int 0, .int 0, .int 0, .int 0, .int 0]) (pc' := 52) cls_X5 dX8_init_49 rfl wx_12 wx_13 wc_80 (by decide +kernel) (Nat.le_of_ble_eq_true rfl) (Nat.le_of_ble_eq_true rfl) (fun q5 => ?_)
  refine rn_dup (pc' := 53) dX8_init_52 rfl rfl ?_
  refine rn_aload_n (pc' := 54) dX8_init_53 rfl rfl (List.mem_of_getElem? (i := 0) rfl) ?_
  refine rn_get (j := 0) (i0 := 0) (v := .ref q1) (pc' := 57) cls_X8 dX8_init_54 rfl rfl (by decide) wc_74 rfl ?_
  refine rn_callI (av := [.ref q1]) (st := [.ref q5, .ref h0]) (wr := ((h0, .inr (8, [.ref q1, .ref q2, .ref q3, .ref q4, .null, .null, .null, .null, .null, .null, .int 0])) :: ((((([] : va_W) ++ L1) ++ L2) ++ L3) ++ L4))) (wc := [(q5, .inr (5, [.null, .null, .null, .null, .null, .null, .null, .null, .int 0, .int 0, .int 0, .int 0, .int 0]))]) (pc' := 60) (c_X5 l G q5 q1) dX8_init_57 rfl rfl mg_X5_init mn_X5_init rfl rfl ⟨Nat.le_of_ble_eq_true rfl, Nat.le_of_ble_eq_true rfl⟩ wc_81 rfl (Nat.le_of_ble_eq_true rfl) (Nat.le_of_ble_eq_true rfl) (Nat.le_of_ble_eq_true rfl) (fun L5 hL5 => ?_)
  refine rn_eq (ws' := ((h0, .inr (8, [.ref q1, .ref q2, .ref q3, .ref q4, .null, .null, .null, .null, .null, .null, .int 0])) :: (((((([] : va_W) ++ L1) ++ L2) ++ L3) ++ L4) ++ L5))) (k' := 43) (n' := 1502) rfl rfl rfl ?_
  refine rn_putF (j := 4) (i0 := 0) (ws' := ((h0, .inr (8, [.ref q1, .ref q2, .ref q3, .ref q4, .ref q5, .null, .null, .null, .null, .null, .int 0])) :: (((((([] : va_W) ++ L1) ++ L2) ++ L3) ++ L4) ++ L5))) (pc' := 63) cls_X8 dX8_init_60 rfl rfl (by decide) wc_82 rfl rfl rfl rfl (Nat.le_of_ble_eq_true rfl) rfl ?_
  refine rn_aload_n (pc' := 64) dX8_init_63 rfl rfl (List.mem_of_getElem? (i := 0) rfl) ?_
  refine rn_new (fs := [.null, .int 0]) (pc' := 67) cls_X1 dX8_init_64 rfl wx_14 wx_3 wc_13 (by decide +kernel) (Nat.le_of_ble_eq_true rfl) (Nat.le_of_ble_eq_true rfl) (fun q6 => ?_)
  refine rn_dup (pc' := 68) dX8_init_67 rfl rfl ?_
  refine rn_callI (av := []) (st := [.ref q6, .ref h0]) (wr := ((h0, .inr (8, [.ref q1, .ref q2, .ref q3, .ref q4, .ref q5, .null, .null, .null, .null, .null, .int 0])) :: (((((([] : va_W) ++ L1) ++ L2) ++ L3) ++ L4) ++ L5))) (wc := [(q6, .inr (1, [.null, .int 0]))]) (pc' := 71) (c_X1 l G q6) dX8_init_68 rfl rfl mg_X1_init mn_X1_init rfl rfl ⟨Nat.le_of_ble_eq_true rfl, Nat.le_of_ble_eq_true rfl⟩ wc_83 rfl (Nat.le_of_ble_eq_true rfl) (Nat.le_of_ble_eq_true rfl) (Nat.le_of_ble_eq_true rfl) (fun L6 hL6 => ?_)
  refine rn_eq (ws' := ((h0, .inr (8, [.ref q1, .ref q2, .ref q3, .ref q4, .ref q5, .null, .null, .null, .null, .null, .int 0])) :: ((((((([] : va_W) ++ L1) ++ L2) ++ L3) ++ L4) ++ L5) ++ L6))) (k' := 45) (n' := 1509) rfl rfl rfl ?_
  refine rn_putF (j := 5) (i0 := 0) (ws' := ((h0, .inr (8, [.ref q1, .ref q2, .ref q3, .ref q4, .ref q5, .ref q6, .null, .null, .null, .null, .int 0])) :: ((((((([] : va_W) ++ L1) ++ L2) ++ L3) ++ L4) ++ L5) ++ L6))) (pc' := 74) cls_X8 dX8_init_71 rfl rfl (by decide) wc_84 rfl rfl rfl rfl (Nat.le_of_ble_eq_true rfl) rfl ?_
  refine rn_aload_n (pc' := 75) dX8_init_74 rfl rfl (List.mem_of_getElem? (i := 0) rfl) ?_
  refine rn_new (fs := [.null, .null, .null, .null, .int 0, .int 0, .int 0, .int 0, .int 0, .int 0]) (pc' := 78) cls_X2 dX8_init_75 rfl wx_15 wx_16 wc_85 (by decide +kernel) (Nat.le_of_ble_eq_true rfl) (Nat.le_of_ble_eq_true rfl) (fun q7 => ?_)
  refine rn_dup (pc' := 79) dX8_init_78 rfl rfl ?_
  refine rn_aload_n (pc' := 80) dX8_init_79 rfl rfl (List.mem_of_getElem? (i := 0) rfl) ?_
  refine rn_get (j := 0) (i0 := 0) (v := .ref q1) (pc' := 83) cls_X8 dX8_init_80 rfl rfl (by decide) wc_74 rfl ?_
  refine rn_aload_n (pc' := 84) dX8_init_83 rfl rfl (List.mem_of_getElem? (i := 0) rfl) ?_
  refine rn_get (j := 4) (i0 := 0) (v := .ref q5) (pc' := 87) cls_X8 dX8_init_84 rfl rfl (by decide) wc_82 rfl ?_
  refine rn_callI (av := [.ref q1, .ref q5]) (st := [.ref q7, .ref h0]) (wr := ((h0, .inr (8, [.ref q1, .ref q2, .ref q3, .ref q4, .ref q5, .ref q6, .null, .null, .null, .null, .int 0])) :: ((((((([] : va_W) ++ L1) ++ L2) ++ L3) ++ L4) ++ L5) ++ L6))) (wc := [(q7, .inr (2, [.null, .null, .null, .null, .int 0, .int 0, .int 0, .int 0, .int 0, .int 0]))]) (pc' := 90) (c_X2 l G q7 q1 q5) dX8_init_87 rfl rfl mg_X2_init mn_X2_init rfl rfl ⟨Nat.le_of_ble_eq_true rfl, Nat.le_of_ble_eq_true rfl⟩ wc_86 rfl (Nat.le_of_ble_eq_true rfl) (Nat.le_of_ble_eq_true rfl) (Nat.le_of_ble_eq_true rfl) (fun L7 hL7 => ?_)
  refine rn_eq (ws' := ((h0, .inr (8, [.ref q1, .ref q2, .ref q3, .ref q4, .ref q5, .ref q6, .null, .null, .null, .null, .int 0])) :: (((((((([] : va_W) ++ L1) ++ L2) ++ L3) ++ L4) ++ L5) ++ L6) ++ L7))) (k' := 50) (n' := 1533) rfl rfl rfl ?_
  refine rn_putF (j := 6) (i0 := 0) (ws' := ((h0, .inr (8, [.ref q1, .ref q2, .ref q3, .ref q4, .ref q5, .ref q6, .ref q7, .null, .null, .null, .int 0])) :: (((((((([] : va_W) ++ L1) ++ L2) ++ L3) ++ L4) ++ L5) ++ L6) ++ L7))) (pc' := 93) cls_X8 dX8_init_90 rfl rfl (by decide) wc_87 rfl rfl rfl rfl (Nat.le_of_ble_eq_true rfl) rfl ?_
  refine rn_aload_n (pc' := 94) dX8_init_93 rfl rfl (List.mem_of_getElem? (i := 0) rfl) ?_
  refine rn_new (fs := [.null, .null, .int 0, .int 0]) (pc' := 97) cls_X7 dX8_init_94 rfl wx_17 wx_18 wc_88 (by decide +kernel) (Nat.le_of_ble_eq_true rfl) (Nat.le_of_ble_eq_true rfl) (fun q8 => ?_)
  refine rn_dup (pc' := 98) dX8_init_97 rfl rfl ?_
  refine rn_aload_n (pc' := 99) dX8_init_98 rfl rfl (List.mem_of_getElem? (i := 0) rfl) ?_
  refine rn_get (j := 0) (i0 := 0) (v := .ref q1) (pc' := 102) cls_X8 dX8_init_99 rfl rfl (by decide) wc_74 rfl ?_
  refine rn_callI (av := [.ref q1]) (st := [.ref q8, .ref h0]) (wr := ((h0, .inr (8, [.ref q1, .ref q2, .ref q3, .ref q4, .ref q5, .ref q6, .ref q7, .null, .null, .null, .int 0])) :: (((((((([] : va_W) ++ L1) ++ L2) ++ L3) ++ L4) ++ L5) ++ L6) ++ L7))) (wc := [(q8, .inr (7, [.null, .null, .int 0, .int 0]))]) (pc' := 105) (c_X7 l G q8 q1) dX8_init_102 rfl rfl mg_X7_init mn_X7_init rfl rfl ⟨Nat.le_of_ble_eq_true rfl, Nat.le_of_ble_eq_true rfl⟩ wc_89 rfl (Nat.le_of_ble_eq_true rfl) (Nat.le_of_ble_eq_true rfl) (Nat.le_of_ble_eq_true rfl) (fun L8 hL8 => ?_)
  refine rn_eq (ws' := ((h0, .inr (8, [.ref q1, .ref q2, .ref q3, .ref q4, .ref q5, .ref q6, .ref q7, .null, .null, .null, .int 0])) :: ((((((((([] : va_W) ++ L1) ++ L2) ++ L3) ++ L4) ++ L5) ++ L6) ++ L7) ++ L8))) (k' := 52) (n' := 1600) rfl rfl rfl ?_
  refine rn_putF (j := 7) (i0 := 0) (ws' := ((h0, .inr (8, [.ref q1, .ref q2, .ref q3, .ref q4, .ref q5, .ref q6, .ref q7, .ref q8, .null, .null, .int 0])) :: ((((((((([] : va_W) ++ L1) ++ L2) ++ L3) ++ L4) ++ L5) ++ L6) ++ L7) ++ L8))) (pc' := 108) cls_X8 dX8_init_105 rfl rfl (by decide) wc_90 rfl rfl rfl rfl (Nat.le_of_ble_eq_true rfl) rfl ?_
  refine rn_aload_n (pc' := 109) dX8_init_108 rfl rfl (List.mem_of_getElem? (i := 0) rfl) ?_
  refine rn_new (fs := [.null, .null, .null, .int 0, .int 0]) (pc' := 112) cls_X0 dX8_init_109 rfl wx_19 wx_20 wc_91 (by decide +kernel) (Nat.le_of_ble_eq_true rfl) (Nat.le_of_ble_eq_true rfl) (fun q9 => ?_)
  refine rn_dup (pc' := 113) dX8_init_112 rfl rfl ?_
  refine rn_aload_n (pc' := 114) dX8_init_113 rfl rfl (List.mem_of_getElem? (i := 0) rfl) ?_
  refine rn_get (j := 0) (i0 := 0) (v := .ref q1) (pc' := 117) cls_X8 dX8_init_114 rfl rfl (by decide) wc_74 rfl ?_
  refine rn_callI (av := [.ref q1]) (st := [.ref q9, .ref h0]) (wr := ((h0, .inr (8, [.ref q1, .ref q2, .ref q3, .ref q4, .ref q5, .ref q6, .ref q7, .ref q8, .null, .null, .int 0])) :: ((((((((([] : va_W) ++ L1) ++ L2) ++ L3) ++ L4) ++ L5) ++ L6) ++ L7) ++ L8))) (wc := [(q9, .inr (0, [.null, .null, .null, .int 0, .int 0]))]) (pc' := 120) (c_X0 l G q9 q1) dX8_init_117 rfl rfl mg_X0_init mn_X0_init rfl rfl ⟨Nat.le_of_ble_eq_true rfl, Nat.le_of_ble_eq_true rfl⟩ wc_92 rfl (Nat.le_of_ble_eq_true rfl) (Nat.le_of_ble_eq_true rfl) (Nat.le_of_ble_eq_true rfl) (fun L9 hL9 => ?_)
  refine rn_eq (ws' := ((h0, .inr (8, [.ref q1, .ref q2, .ref q3, .ref q4, .ref q5, .ref q6, .ref q7, .ref q8, .null, .null, .int 0])) :: (((((((((([] : va_W) ++ L1) ++ L2) ++ L3) ++ L4) ++ L5) ++ L6) ++ L7) ++ L8) ++ L9))) (k' := 56) (n' := 1617) rfl rfl rfl ?_
  refine rn_putF (j := 8) (i0 := 0) (ws' := ((h0, .inr (8, [.ref q1, .ref q2, .ref q3, .ref q4, .ref q5, .ref q6, .ref q7, .ref q8, .ref q9, .null, .int 0])) :: (((((((((([] : va_W) ++ L1) ++ L2) ++ L3) ++ L4) ++ L5) ++ L6) ++ L7) ++ L8) ++ L9))) (pc' := 123) cls_X8 dX8_init_120 rfl rfl (by decide) wc_93 rfl rfl rfl rfl (Nat.le_of_ble_eq_true rfl) rfl ?_
  refine rn_aload_n (pc' := 124) dX8_init_123 rfl rfl (List.mem_of_getElem? (i := 0) rfl) ?_
  refine rn_new (fs := [.null, .null, .null, .int 0]) (pc' := 127) cls_X6 dX8_init_124 rfl wx_21 wx_22 wc_94 (by decide +kernel) (Nat.le_of_ble_eq_true rfl) (Nat.le_of_ble_eq_true rfl) (fun q10 => ?_)
  refine rn_dup (pc' := 128) dX8_init_127 rfl rfl ?_
  refine rn_callI (av := []) (st := [.ref q10, .ref h0]) (wr := ((h0, .inr (8, [.ref q1, .ref q2, .ref q3, .ref q4, .ref q5, .ref q6, .ref q7, .ref q8, .ref q9, .null, .int 0])) :: (((((((((([] : va_W) ++ L1) ++ L2) ++ L3) ++ L4) ++ L5) ++ L6) ++ L7) ++ L8) ++ L9))) (wc := [(q10, .inr (6, [.null, .null, .null, .int 0]))]) (pc' := 131) (c_X6 l G q10) dX8_init_128 rfl rfl mg_X6_init mn_X6_init rfl rfl ⟨Nat.le_of_ble_eq_true rfl, Nat.le_of_ble_eq_true rfl⟩ wc_95 rfl (Nat.le_of_ble_eq_true rfl) (Nat.le_of_ble_eq_true rfl) (Nat.le_of_ble_eq_true rfl) (fun L10 hL10 => ?_)
  refine rn_eq (ws' := ((h0, .inr (8, [.ref q1, .ref q2, .ref q3, .ref q4, .ref q5, .ref q6, .ref q7, .ref q8, .ref q9, .null, .int 0])) :: ((((((((((([] : va_W) ++ L1) ++ L2) ++ L3) ++ L4) ++ L5) ++ L6) ++ L7) ++ L8) ++ L9) ++ L10))) (k' := 60) (n' := 1789) rfl rfl rfl ?_
  refine rn_putF (j := 9) (i0 := 0) (ws' := ((h0, .inr (8, [.ref q1, .ref q2, .ref q3, .ref q4, .ref q5, .ref q6, .ref q7, .ref q8, .ref q9, .ref q10, .int 0])) :: ((((((((((([] : va_W) ++ L1) ++ L2) ++ L3) ++ L4) ++ L5) ++ L6) ++ L7) ++ L8) ++ L9) ++ L10))) (pc' := 134) cls_X8 dX8_init_131 rfl rfl (by decide) wc_96 rfl rfl rfl rfl (Nat.le_of_ble_eq_true rfl) rfl ?_
  refine rn_aload_n (pc' := 135) dX8_init_134 rfl rfl (List.mem_of_getElem? (i := 0) rfl) ?_
  refine rn_iconst (v := 0) (pc' := 136) dX8_init_135 rfl (by decide) ?_
  refine rn_put (j := 10) (i0 := 0) (ws' := ((h0, .inr (8, [.ref q1, .ref q2, .ref q3, .ref q4, .ref q5, .ref q6, .ref q7, .ref q8, .ref q9, .ref q10, .int 0])) :: ((((((((((([] : va_W) ++ L1) ++ L2) ++ L3) ++ L4) ++ L5) ++ L6) ++ L7) ++ L8) ++ L9) ++ L10))) (pc' := 139) cls_X8 dX8_init_136 rfl rfl (by decide) wc_97 rfl rfl rfl (Nat.le_of_ble_eq_true rfl) rfl ?_
  exact rn_ret dX8_init_139 rfl ⟨q1, L1, q2, L2, q3, L3, q4, L4, q5, L5, q6, L6, q7, L7, q8, L8, q9, L9, q10, L10, hL1, hL2, hL3, hL4, hL5, hL6, hL7, hL8, hL9, hL10, rfl⟩
