def ww_mend_34   (μ : Mem) : Option (Int × Mem) := some (μ 46 7, μ)
theorem ww_mend_34_s {l : Launch} {G : Nv}     : ∀ (μ : Mem), SR l G S88 mX8_mend (ww_mend_34 μ) jIM 34 [some (vR 0), none] [] μ := by
  intro μ
  unfold ww_mend_34
  refine sr_aload_n (i := 0) (pc' := 35) dX8_mend_34 rfl rfl rfl ?_
  refine sr_getR (k := 6) (b := 46) (pc' := 38) cls_X8 dX8_mend_35 rfl s88_0 rfl (by decide) w_22 ?_
  refine sr_getIN (k := 7) (pc' := 41) cls_X2 dX8_mend_38 rfl s88_46 rfl (by decide) w_166 ?_
  exact sr_iretI dX8_mend_41 rfl rfl
def ww_mend   (x1 : Int) (μ : Mem) : Option (Int × Mem) := if x1 < 0 then (some ((-1), μ)) else (if x1 ≤ 2 then ((pla_findMending μ).bind fun μ1 => if x1 = 0 then (ww_mend_34 μ1) else (if (μ1 46 7) = (-4) then (ww_mend_34 μ1) else (if x1 ≤ (μ1 46 7) then (if x1 = 1 then (some (μ1 46 8, μ1)) else (some (μ1 46 9, μ1))) else (some ((-4), μ1))))) else (some ((-1), μ)))
theorem ww_mend_sp {l : Launch} {G : Nv}   (x1 : Int) (μ : Mem) : SP l G S88 mX8_mend [vR 0, vI x1] μ (ww_mend x1 μ) jIM := by
  refine sp_go (lv := [some (vR 0), some (vI x1)]) pn_X8 (Nat.le_of_ble_eq_true rfl) rfl ?_
  unfold ww_mend
  refine sr_iload_n (i := 1) (pc' := 1) dX8_mend_0 rfl rfl rfl ?_
  refine sr_if_lt (pc' := 4) (tgt := 9) dX8_mend_1 rfl rfl (fun c1 => ?_) (fun c1 => ?_)
  · refine sr_iconst (pc' := 10) dX8_mend_9 rfl (by decide) ?_
    exact sr_iretI dX8_mend_10 rfl rfl
  · refine sr_iload_n (i := 1) (pc' := 5) dX8_mend_4 rfl rfl rfl ?_
    refine sr_iconst (pc' := 6) dX8_mend_5 rfl (by decide) ?_
    refine sr_icmp_le (pc' := 9) (tgt := 11) dX8_mend_6 rfl rfl (fun c6 => ?_) (fun c6 => ?_)
    · refine sr_aload_n (i := 0) (pc' := 12) dX8_mend_11 rfl rfl rfl ?_
      refine sr_getR (k := 6) (b := 46) (pc' := 15) cls_X8 dX8_mend_12 rfl s88_0 rfl (by decide) w_22 ?_
      refine sr_callVN0_M (pc' := 18) (pla_findMending_sp μ) dX8_mend_15 rfl mg_X2_findMending mi_X2_findMending (Or.inl ⟨2, _, TX2, 10, s88_46, rfl⟩) ⟨Nat.le_of_ble_eq_true rfl, Nat.le_of_ble_eq_true rfl⟩ w_167 (Nat.le_of_ble_eq_true rfl) (fun μ1 hμ1 => ?_)
      refine sr_iload_n (i := 1) (pc' := 19) dX8_mend_18 rfl rfl rfl ?_
      refine sr_if_eq (pc' := 22) (tgt := 34) dX8_mend_19 rfl rfl (fun c19 => ?_) (fun c19 => ?_)
      · refine sr_fgt (fgt_s (fgt_n fgt_nil)) ?_
        exact ww_mend_34_s μ1
      · refine sr_aload_n (i := 0) (pc' := 23) dX8_mend_22 rfl rfl rfl ?_
        refine sr_getR (k := 6) (b := 46) (pc' := 26) cls_X8 dX8_mend_23 rfl s88_0 rfl (by decide) w_22 ?_
        refine sr_getIN (k := 7) (pc' := 29) cls_X2 dX8_mend_26 rfl s88_46 rfl (by decide) w_166 ?_
        refine sr_bipush (pc' := 31) dX8_mend_29 rfl (by decide) (by decide) ?_
        refine sr_icmp_ne (pc' := 34) (tgt := 42) dX8_mend_31 rfl rfl (fun c31 => ?_) (fun c31 => ?_)
        · refine sr_fgt (fgt_s (fgt_n fgt_nil)) ?_
          exact ww_mend_34_s μ1
        · refine sr_iload_n (i := 1) (pc' := 43) dX8_mend_42 rfl rfl rfl ?_
          refine sr_aload_n (i := 0) (pc' := 44) dX8_mend_43 rfl rfl rfl ?_
          refine sr_getR (k := 6) (b := 46) (pc' := 47) cls_X8 dX8_mend_44 rfl s88_0 rfl (by decide) w_22 ?_
          refine sr_getIN (k := 7) (pc' := 50) cls_X2 dX8_mend_47 rfl s88_46 rfl (by decide) w_166 ?_
          refine sr_icmp_le (pc' := 53) (tgt := 56) dX8_mend_50 rfl rfl (fun c50 => ?_) (fun c50 => ?_)
          · refine sr_iload_n (i := 1) (pc' := 57) dX8_mend_56 rfl rfl rfl ?_
            refine sr_iconst (pc' := 58) dX8_mend_57 rfl (by decide) ?_
            refine sr_icmp_ne (pc' := 61) (tgt := 71) dX8_mend_58 rfl rfl (fun c58 => ?_) (fun c58 => ?_)
            · refine sr_aload_n (i := 0) (pc' := 62) dX8_mend_61 rfl rfl rfl ?_
              refine sr_getR (k := 6) (b := 46) (pc' := 65) cls_X8 dX8_mend_62 rfl s88_0 rfl (by decide) w_22 ?_
              refine sr_getIN (k := 8) (pc' := 68) cls_X2 dX8_mend_65 rfl s88_46 rfl (by decide) w_168 ?_
              refine sr_goto (pc' := 78) dX8_mend_68 rfl ?_
              exact sr_iretI dX8_mend_78 rfl rfl
            · refine sr_aload_n (i := 0) (pc' := 72) dX8_mend_71 rfl rfl rfl ?_
              refine sr_getR (k := 6) (b := 46) (pc' := 75) cls_X8 dX8_mend_72 rfl s88_0 rfl (by decide) w_22 ?_
              refine sr_getIN (k := 9) (pc' := 78) cls_X2 dX8_mend_75 rfl s88_46 rfl (by decide) w_169 ?_
              exact sr_iretI dX8_mend_78 rfl rfl
          · refine sr_bipush (pc' := 55) dX8_mend_53 rfl (by decide) (by decide) ?_
            exact sr_iretI dX8_mend_55 rfl rfl
    · refine sr_iconst (pc' := 10) dX8_mend_9 rfl (by decide) ?_
      exact sr_iretI dX8_mend_10 rfl rfl
def run_sumOfDone_4 (μ : Mem)  : Nat → Int → Int → Option (Int)
  | 0, _, _ => none
  | n + 1, x1, x2 => if (μ 1 10) ≤ x2 then (some x1) else ((ww_at 41 5 μ x2).bind fun u1 => bnd (wI (x1 + u1)) fun v2 => run_sumOfDone_4 μ n v2 (wI (x2 + 1)))
theorem run_sumOfDone_4_s {l : Launch} {G : Nv}   (μ : Mem)   : ∀ (n : Nat) (x1 x2 : Int), SR l G S88 mX5_sumOfDone (run_sumOfDone_4 μ n x1 x2) (jI μ) 4 [some (vR 35), some (vI x1), some (vI x2)] [] μ := by
  intro n
  induction n with
  | zero => intro x1 x2; exact sr_none
  | succ n ih =>
    intro x1 x2
    rw [run_sumOfDone_4.eq_2]
    refine sr_iload_n (i := 2) (pc' := 5) dX5_sumOfDone_4 rfl rfl rfl ?_
    refine sr_aload_n (i := 0) (pc' := 6) dX5_sumOfDone_5 rfl rfl rfl ?_
    refine sr_getR (k := 0) (b := 1) (pc' := 9) cls_X5 dX5_sumOfDone_6 rfl s88_35 rfl (by decide) w_64 ?_
    refine sr_getI (k := 10) (pc' := 12) cls_X4 dX5_sumOfDone_9 rfl isRoad_1.1 rfl (by decide) w_65 ?_
    refine sr_icmp_ge (pc' := 15) (tgt := 32) dX5_sumOfDone_12 rfl rfl (fun c12 => ?_) (fun c12 => ?_)
    · refine sr_iload_n (i := 1) (pc' := 33) dX5_sumOfDone_32 rfl rfl rfl ?_
      exact sr_iretI dX5_sumOfDone_33 rfl rfl
    · refine sr_iload_n (i := 1) (pc' := 16) dX5_sumOfDone_15 rfl rfl rfl ?_
      refine sr_aload_n (i := 0) (pc' := 17) dX5_sumOfDone_16 rfl rfl rfl ?_
      refine sr_getR (k := 5) (b := 41) (pc' := 20) cls_X5 dX5_sumOfDone_17 rfl s88_35 rfl (by decide) w_73 ?_
      refine sr_iload_n (i := 2) (pc' := 21) dX5_sumOfDone_20 rfl rfl rfl ?_
      refine sr_callSN2_I (pc' := 24) (ww_at_sp s88_41 (by decide) x2 μ) dX5_sumOfDone_21 rfl mg_X8_at ms_X8_at ⟨Nat.le_of_ble_eq_true rfl, Nat.le_of_ble_eq_true rfl⟩ w_85 (Nat.le_of_ble_eq_true rfl) (fun u1 hu1 hcu1 hzu1 => ?_)
      refine sr_iadd (pc' := 25) dX5_sumOfDone_24 rfl ?_
      refine sr_bnd (fun v2 hv2 => ?_)
      refine sr_istore_n (i := 1) (lv' := [some (vR 35), some (vI v2), some (vI x2)]) (pc' := 26) dX5_sumOfDone_25 rfl rfl (by decide) rfl ?_
      refine sr_iinc (lv' := [some (vR 35), some (vI v2), some (vI (wI (x2 + 1)))]) (pc' := 29) dX5_sumOfDone_26 rfl (by decide) rfl rfl ?_
      refine sr_goto (pc' := 4) dX5_sumOfDone_29 rfl ?_
      exact ih v2 (wI (x2 + 1))
def run_sumOfDone (μ : Mem)  : Option (Int) := run_sumOfDone_4 μ BIG 0 0
theorem run_sumOfDone_sp {l : Launch} {G : Nv}   (μ : Mem) : SP l G S88 mX5_sumOfDone [vR 35] μ (run_sumOfDone μ) (jI μ) := by
  refine sp_go (lv := [some (vR 35), none, none]) pn_X5 (Nat.le_of_ble_eq_true rfl) rfl ?_
  unfold run_sumOfDone
  refine sr_iconst (pc' := 1) dX5_sumOfDone_0 rfl (by decide) ?_
  refine sr_istore_n (i := 1) (lv' := [some (vR 35), some (vI 0), none]) (pc' := 2) dX5_sumOfDone_1 rfl rfl (by decide) rfl ?_
  refine sr_iconst (pc' := 3) dX5_sumOfDone_2 rfl (by decide) ?_
  refine sr_istore_n (i := 2) (lv' := [some (vR 35), some (vI 0), some (vI 0)]) (pc' := 4) dX5_sumOfDone_3 rfl rfl (by decide) rfl ?_
  exact run_sumOfDone_4_s μ BIG 0 0
def ord_exchange (o : Nat)  (x1 x2 : Int) (μ : Mem) : Option (Mem) := (ww_at (o + 1) 5 μ x1).bind fun u1 => (ww_swap (o + 1) 5 x2 u1 μ).bind fun u2 => (ww_put (o + 1) 5 x1 u2.1 u2.2).bind fun μ3 => some μ3
theorem ord_exchange_sp {l : Launch} {G : Nv} {Sh : Shp} {o : Nat} (ho : IsOrder Sh o) (x1 x2 : Int) (μ : Mem) : SP l G Sh mX1_exchange [vR o, vI x1, vI x2] μ (ord_exchange o x1 x2 μ) jM := by
  refine sp_go (lv := [some (vR o), some (vI x1), some (vI x2)]) pn_X1 (Nat.le_of_ble_eq_true rfl) rfl ?_
  unfold ord_exchange
  refine sr_aload_n (i := 0) (pc' := 1) dX1_exchange_0 rfl rfl rfl ?_
  refine sr_getR (k := 0) (b := (o + 1)) (pc' := 4) cls_X1 dX1_exchange_1 rfl ho.1 rfl (by decide) w_60 ?_
  refine sr_iload_n (i := 1) (pc' := 5) dX1_exchange_4 rfl rfl rfl ?_
  refine sr_aload_n (i := 0) (pc' := 6) dX1_exchange_5 rfl rfl rfl ?_
  refine sr_getR (k := 0) (b := (o + 1)) (pc' := 9) cls_X1 dX1_exchange_6 rfl ho.1 rfl (by decide) w_60 ?_
  refine sr_iload_n (i := 2) (pc' := 10) dX1_exchange_9 rfl rfl rfl ?_
  refine sr_aload_n (i := 0) (pc' := 11) dX1_exchange_10 rfl rfl rfl ?_
  refine sr_getR (k := 0) (b := (o + 1)) (pc' := 14) cls_X1 dX1_exchange_11 rfl ho.1 rfl (by decide) w_60 ?_
  refine sr_iload_n (i := 1) (pc' := 15) dX1_exchange_14 rfl rfl rfl ?_
  refine sr_callSN2_I (pc' := 18) (ww_at_sp ho.2 (by decide) x1 μ) dX1_exchange_15 rfl mg_X8_at ms_X8_at ⟨Nat.le_of_ble_eq_true rfl, Nat.le_of_ble_eq_true rfl⟩ w_170 (Nat.le_of_ble_eq_true rfl) (fun u1 hu1 hcu1 hzu1 => ?_)
  refine sr_callSN3_IM (pc' := 21) (ww_swap_sp ho.2 (by decide) x2 u1 μ) dX1_exchange_18 rfl mg_X8_swap ms_X8_swap ⟨Nat.le_of_ble_eq_true rfl, Nat.le_of_ble_eq_true rfl⟩ w_171 (Nat.le_of_ble_eq_true rfl) (fun u2 hu2 hcu2 hzu2 => ?_)
  refine sr_callSN3_M (pc' := 24) (ww_put_sp ho.2 (by decide) x1 u2.1 u2.2) dX1_exchange_21 rfl mg_X8_put ms_X8_put ⟨Nat.le_of_ble_eq_true rfl, Nat.le_of_ble_eq_true rfl⟩ w_172 (Nat.le_of_ble_eq_true rfl) (fun μ3 hμ3 => ?_)
  exact sr_ret dX1_exchange_24 rfl rfl
def ord_advance_99 (o : Nat)  : Nat → Int → Int → Mem → Option (Int × Mem)
  | 0, _, _, _ => none
  | n + 1, x3, x4, μ => if x3 ≤ x4 then (some (1, μ)) else ((ord_exchange o x4 x3 μ).bind fun μ1 => ord_advance_99 o n (wI (x3 + (-1))) (wI (x4 + 1)) μ1)
theorem ord_advance_99_s {l : Launch} {G : Nv} {Sh : Shp} {o : Nat} (ho : IsOrder Sh o)   : ∀ (n : Nat) (x3 x4 : Int) (μ : Mem), SR l G Sh mX1_advance (ord_advance_99 o n x3 x4 μ) jIM 99 [some (vR o), none, none, some (vI x3), some (vI x4)] [] μ := by
  intro n
  induction n with
  | zero => intro x3 x4 μ; exact sr_none
  | succ n ih =>
    intro x3 x4 μ
    rw [ord_advance_99.eq_2]
    refine sr_iload (pc' := 101) dX1_advance_99 rfl rfl ?_
    refine sr_iload_n (i := 3) (pc' := 102) dX1_advance_101 rfl rfl rfl ?_
    refine sr_icmp_ge (pc' := 105) (tgt := 121) dX1_advance_102 rfl rfl (fun c102 => ?_) (fun c102 => ?_)
    · refine sr_iconst (pc' := 122) dX1_advance_121 rfl (by decide) ?_
      exact sr_iretZ dX1_advance_122 rfl (Or.inr rfl) rfl
    · refine sr_aload_n (i := 0) (pc' := 106) dX1_advance_105 rfl rfl rfl ?_
      refine sr_iload (pc' := 108) dX1_advance_106 rfl rfl ?_
      refine sr_iload_n (i := 3) (pc' := 109) dX1_advance_108 rfl rfl rfl ?_
      refine sr_callV2_M (pc' := 112) (ord_exchange_sp ho x4 x3 μ) dX1_advance_109 rfl mg_X1_exchange mi_X1_exchange (Or.inl ⟨1, _, TX1, 2, ho.1, rfl⟩) ⟨Nat.le_of_ble_eq_true rfl, Nat.le_of_ble_eq_true rfl⟩ w_173 (Nat.le_of_ble_eq_true rfl) (fun μ1 hμ1 => ?_)
      refine sr_iinc (lv' := [some (vR o), none, none, some (vI (wI (x3 + (-1)))), some (vI x4)]) (pc' := 115) dX1_advance_112 rfl (by decide) rfl rfl ?_
      refine sr_iinc (lv' := [some (vR o), none, none, some (vI (wI (x3 + (-1)))), some (vI (wI (x4 + 1)))]) (pc' := 118) dX1_advance_115 rfl (by decide) rfl rfl ?_
      refine sr_goto (pc' := 99) dX1_advance_118 rfl ?_
      exact ih (wI (x3 + (-1))) (wI (x4 + 1)) μ1
def ord_advance_81 (o : Nat)  (x1 x2 : Int) (μ : Mem) : Option (Int × Mem) := (ord_exchange o x1 x2 μ).bind fun μ1 => bnd (wI ((μ1 o 1) - 1)) fun v2 => bnd (wI (x1 + 1)) fun v3 => ord_advance_99 o BIG v2 v3 μ1
theorem ord_advance_81_s {l : Launch} {G : Nv} {Sh : Shp} {o : Nat} (ho : IsOrder Sh o)   : ∀ (x1 x2 : Int) (μ : Mem), SR l G Sh mX1_advance (ord_advance_81 o x1 x2 μ) jIM 81 [some (vR o), some (vI x1), some (vI x2), none, none] [] μ := by
  intro x1 x2 μ
  unfold ord_advance_81
  refine sr_aload_n (i := 0) (pc' := 82) dX1_advance_81 rfl rfl rfl ?_
  refine sr_iload_n (i := 1) (pc' := 83) dX1_advance_82 rfl rfl rfl ?_
  refine sr_iload_n (i := 2) (pc' := 84) dX1_advance_83 rfl rfl rfl ?_
  refine sr_callV2_M (pc' := 87) (ord_exchange_sp ho x1 x2 μ) dX1_advance_84 rfl mg_X1_exchange mi_X1_exchange (Or.inl ⟨1, _, TX1, 2, ho.1, rfl⟩) ⟨Nat.le_of_ble_eq_true rfl, Nat.le_of_ble_eq_true rfl⟩ w_173 (Nat.le_of_ble_eq_true rfl) (fun μ1 hμ1 => ?_)
  refine sr_aload_n (i := 0) (pc' := 88) dX1_advance_87 rfl rfl rfl ?_
  refine sr_getI (k := 1) (pc' := 91) cls_X1 dX1_advance_88 rfl ho.1 rfl (by decide) w_62 ?_
  refine sr_iconst (pc' := 92) dX1_advance_91 rfl (by decide) ?_
  refine sr_isub (pc' := 93) dX1_advance_92 rfl ?_
  refine sr_bnd (fun v2 hv2 => ?_)
  refine sr_istore_n (i := 3) (lv' := [some (vR o), some (vI x1), some (vI x2), some (vI v2), none]) (pc' := 94) dX1_advance_93 rfl rfl (by decide) rfl ?_
  refine sr_iload_n (i := 1) (pc' := 95) dX1_advance_94 rfl rfl rfl ?_
  refine sr_iconst (pc' := 96) dX1_advance_95 rfl (by decide) ?_
  refine sr_iadd (pc' := 97) dX1_advance_96 rfl ?_
  refine sr_bnd (fun v3 hv3 => ?_)
  refine sr_istore (lv' := [some (vR o), some (vI x1), some (vI x2), some (vI v2), some (vI v3)]) (pc' := 99) dX1_advance_97 rfl (by decide) rfl ?_
  refine sr_fgt (fgt_s (fgt_n (fgt_n (fgt_s (fgt_s fgt_nil))))) ?_
  exact ord_advance_99_s ho BIG v2 v3 μ1
def ord_advance_51 (o : Nat)  : Nat → Int → Int → Mem → Option (Int × Mem)
  | 0, _, _, _ => none
  | n + 1, x1, x2, μ => if x2 ≤ x1 then (ord_advance_81 o x1 x2 μ) else ((ww_at (o + 1) 5 μ x2).bind fun u1 => (ww_at (o + 1) 5 μ x1).bind fun u2 => if u2 ≤ u1 then (ord_advance_81 o x1 x2 μ) else (ord_advance_51 o n x1 (wI (x2 + (-1))) μ))
theorem ord_advance_51_s {l : Launch} {G : Nv} {Sh : Shp} {o : Nat} (ho : IsOrder Sh o)   : ∀ (n : Nat) (x1 x2 : Int) (μ : Mem), SR l G Sh mX1_advance (ord_advance_51 o n x1 x2 μ) jIM 51 [some (vR o), some (vI x1), some (vI x2), none, none] [] μ := by
  intro n
  induction n with
  | zero => intro x1 x2 μ; exact sr_none
  | succ n ih =>
    intro x1 x2 μ
    rw [ord_advance_51.eq_2]
    refine sr_iload_n (i := 2) (pc' := 52) dX1_advance_51 rfl rfl rfl ?_
    refine sr_iload_n (i := 1) (pc' := 53) dX1_advance_52 rfl rfl rfl ?_
    refine sr_icmp_le (pc' := 56) (tgt := 81) dX1_advance_53 rfl rfl (fun c53 => ?_) (fun c53 => ?_)
    · exact ord_advance_81_s ho x1 x2 μ
    · refine sr_aload_n (i := 0) (pc' := 57) dX1_advance_56 rfl rfl rfl ?_
      refine sr_getR (k := 0) (b := (o + 1)) (pc' := 60) cls_X1 dX1_advance_57 rfl ho.1 rfl (by decide) w_60 ?_
      refine sr_iload_n (i := 2) (pc' := 61) dX1_advance_60 rfl rfl rfl ?_
      refine sr_callSN2_I (pc' := 64) (ww_at_sp ho.2 (by decide) x2 μ) dX1_advance_61 rfl mg_X8_at ms_X8_at ⟨Nat.le_of_ble_eq_true rfl, Nat.le_of_ble_eq_true rfl⟩ w_170 (Nat.le_of_ble_eq_true rfl) (fun u1 hu1 hcu1 hzu1 => ?_)
      refine sr_aload_n (i := 0) (pc' := 65) dX1_advance_64 rfl rfl rfl ?_
      refine sr_getR (k := 0) (b := (o + 1)) (pc' := 68) cls_X1 dX1_advance_65 rfl ho.1 rfl (by decide) w_60 ?_
      refine sr_iload_n (i := 1) (pc' := 69) dX1_advance_68 rfl rfl rfl ?_
      refine sr_callSN2_I (pc' := 72) (ww_at_sp ho.2 (by decide) x1 μ) dX1_advance_69 rfl mg_X8_at ms_X8_at ⟨Nat.le_of_ble_eq_true rfl, Nat.le_of_ble_eq_true rfl⟩ w_170 (Nat.le_of_ble_eq_true rfl) (fun u2 hu2 hcu2 hzu2 => ?_)
      refine sr_icmp_ge (pc' := 75) (tgt := 81) dX1_advance_72 rfl rfl (fun c72 => ?_) (fun c72 => ?_)
      · exact ord_advance_81_s ho x1 x2 μ
      · refine sr_iinc (lv' := [some (vR o), some (vI x1), some (vI (wI (x2 + (-1)))), none, none]) (pc' := 78) dX1_advance_75 rfl (by decide) rfl rfl ?_
        refine sr_goto (pc' := 51) dX1_advance_78 rfl ?_
        exact ih x1 (wI (x2 + (-1))) μ
def ord_advance_38 (o : Nat)  (x1 : Int) (μ : Mem) : Option (Int × Mem) := if 0 ≤ x1 then (bnd (wI ((μ o 1) - 1)) fun v1 => ord_advance_51 o BIG x1 v1 μ) else (some (0, μ))
theorem ord_advance_38_s {l : Launch} {G : Nv} {Sh : Shp} {o : Nat} (ho : IsOrder Sh o)   : ∀ (x1 : Int) (μ : Mem), SR l G Sh mX1_advance (ord_advance_38 o x1 μ) jIM 38 [some (vR o), some (vI x1), none, none, none] [] μ := by
  intro x1 μ
  unfold ord_advance_38
  refine sr_iload_n (i := 1) (pc' := 39) dX1_advance_38 rfl rfl rfl ?_
  refine sr_if_ge (pc' := 42) (tgt := 44) dX1_advance_39 rfl rfl (fun c39 => ?_) (fun c39 => ?_)
  · refine sr_aload_n (i := 0) (pc' := 45) dX1_advance_44 rfl rfl rfl ?_
    refine sr_getI (k := 1) (pc' := 48) cls_X1 dX1_advance_45 rfl ho.1 rfl (by decide) w_62 ?_
    refine sr_iconst (pc' := 49) dX1_advance_48 rfl (by decide) ?_
    refine sr_isub (pc' := 50) dX1_advance_49 rfl ?_
    refine sr_bnd (fun v1 hv1 => ?_)
    refine sr_istore_n (i := 2) (lv' := [some (vR o), some (vI x1), some (vI v1), none, none]) (pc' := 51) dX1_advance_50 rfl rfl (by decide) rfl ?_
    exact ord_advance_51_s ho BIG x1 v1 μ
  · refine sr_iconst (pc' := 43) dX1_advance_42 rfl (by decide) ?_
    exact sr_iretZ dX1_advance_43 rfl (Or.inl rfl) rfl
def ord_advance_7 (o : Nat)  : Nat → Int → Mem → Option (Int × Mem)
  | 0, _, _ => none
  | n + 1, x1, μ => if x1 < 0 then (ord_advance_38 o x1 μ) else ((ww_at (o + 1) 5 μ x1).bind fun u1 => (ww_at (o + 1) 5 μ (wI (x1 + 1))).bind fun u2 => if u1 ≤ u2 then (ord_advance_38 o x1 μ) else (ord_advance_7 o n (wI (x1 + (-1))) μ))
theorem ord_advance_7_s {l : Launch} {G : Nv} {Sh : Shp} {o : Nat} (ho : IsOrder Sh o)   : ∀ (n : Nat) (x1 : Int) (μ : Mem), SR l G Sh mX1_advance (ord_advance_7 o n x1 μ) jIM 7 [some (vR o), some (vI x1), none, none, none] [] μ := by
  intro n
  induction n with
  | zero => intro x1 μ; exact sr_none
  | succ n ih =>
    intro x1 μ
    rw [ord_advance_7.eq_2]
    refine sr_iload_n (i := 1) (pc' := 8) dX1_advance_7 rfl rfl rfl ?_
    refine sr_if_lt (pc' := 11) (tgt := 38) dX1_advance_8 rfl rfl (fun c8 => ?_) (fun c8 => ?_)
    · exact ord_advance_38_s ho x1 μ
    · refine sr_aload_n (i := 0) (pc' := 12) dX1_advance_11 rfl rfl rfl ?_
      refine sr_getR (k := 0) (b := (o + 1)) (pc' := 15) cls_X1 dX1_advance_12 rfl ho.1 rfl (by decide) w_60 ?_
      refine sr_iload_n (i := 1) (pc' := 16) dX1_advance_15 rfl rfl rfl ?_
      refine sr_callSN2_I (pc' := 19) (ww_at_sp ho.2 (by decide) x1 μ) dX1_advance_16 rfl mg_X8_at ms_X8_at ⟨Nat.le_of_ble_eq_true rfl, Nat.le_of_ble_eq_true rfl⟩ w_170 (Nat.le_of_ble_eq_true rfl) (fun u1 hu1 hcu1 hzu1 => ?_)
      refine sr_aload_n (i := 0) (pc' := 20) dX1_advance_19 rfl rfl rfl ?_
      refine sr_getR (k := 0) (b := (o + 1)) (pc' := 23) cls_X1 dX1_advance_20 rfl ho.1 rfl (by decide) w_60 ?_
      refine sr_iload_n (i := 1) (pc' := 24) dX1_advance_23 rfl rfl rfl ?_
      refine sr_iconst (pc' := 25) dX1_advance_24 rfl (by decide) ?_
      refine sr_iadd (pc' := 26) dX1_advance_25 rfl ?_
      refine sr_callSN2_I (pc' := 29) (ww_at_sp ho.2 (by decide) (wI (x1 + 1)) μ) dX1_advance_26 rfl mg_X8_at ms_X8_at ⟨Nat.le_of_ble_eq_true rfl, Nat.le_of_ble_eq_true rfl⟩ w_170 (Nat.le_of_ble_eq_true rfl) (fun u2 hu2 hcu2 hzu2 => ?_)
      refine sr_icmp_le (pc' := 32) (tgt := 38) dX1_advance_29 rfl rfl (fun c29 => ?_) (fun c29 => ?_)
      · exact ord_advance_38_s ho x1 μ
      · refine sr_iinc (lv' := [some (vR o), some (vI (wI (x1 + (-1)))), none, none, none]) (pc' := 35) dX1_advance_32 rfl (by decide) rfl rfl ?_
        refine sr_goto (pc' := 7) dX1_advance_35 rfl ?_
        exact ih (wI (x1 + (-1))) μ
def ord_advance (o : Nat)  (μ : Mem) : Option (Int × Mem) := bnd (wI ((μ o 1) - 2)) fun v1 => ord_advance_7 o BIG v1 μ
theorem ord_advance_sp {l : Launch} {G : Nv} {Sh : Shp} {o : Nat} (ho : IsOrder Sh o) (μ : Mem) : SP l G Sh mX1_advance [vR o] μ (ord_advance o μ) jIM := by
  refine sp_go (lv := [some (vR o), none, none, none, none]) pn_X1 (Nat.le_of_ble_eq_true rfl) rfl ?_
  unfold ord_advance
  refine sr_aload_n (i := 0) (pc' := 1) dX1_advance_0 rfl rfl rfl ?_
  refine sr_getI (k := 1) (pc' := 4) cls_X1 dX1_advance_1 rfl ho.1 rfl (by decide) w_62 ?_
  refine sr_iconst (pc' := 5) dX1_advance_4 rfl (by decide) ?_
  refine sr_isub (pc' := 6) dX1_advance_5 rfl ?_
  refine sr_bnd (fun v1 hv1 => ?_)
  refine sr_istore_n (i := 1) (lv' := [some (vR o), some (vI v1), none, none, none]) (pc' := 7) dX1_advance_6 rfl rfl (by decide) rfl ?_
  exact ord_advance_7_s ho BIG v1 μ
def pla_findOrder_82  (k104 : Int → Mem → Option (Mem)) (x1 : Int) (μ : Mem) : Option (Mem) := (run_sumOfDone μ).bind fun u1 => bnd (mset μ 46 6 u1) fun μ2 => (ord_copyOf 49 47 μ2).bind fun μ3 => k104 x1 μ3
theorem pla_findOrder_82_s {l : Launch} {G : Nv}   {k104 : Int → Mem → Option (Mem)} (hk104 : ∀ (x1 : Int) (μ : Mem) , SR l G S88 mX2_findOrder (k104 x1 μ) jM 104 [some (vR 46), some (vI x1)] [] μ) : ∀ (x1 : Int) (μ : Mem), SR l G S88 mX2_findOrder (pla_findOrder_82 k104 x1 μ) jM 82 [some (vR 46), some (vI x1)] [] μ := by
  intro x1 μ
  unfold pla_findOrder_82
  refine sr_aload_n (i := 0) (pc' := 83) dX2_findOrder_82 rfl rfl rfl ?_
  refine sr_aload_n (i := 0) (pc' := 84) dX2_findOrder_83 rfl rfl rfl ?_
  refine sr_getR (k := 1) (b := 35) (pc' := 87) cls_X2 dX2_findOrder_84 rfl s88_46 rfl (by decide) w_161 ?_
  refine sr_callVN0_I (pc' := 90) (run_sumOfDone_sp μ) dX2_findOrder_87 rfl mg_X5_sumOfDone mi_X5_sumOfDone (Or.inl ⟨5, _, TX5, 13, s88_35, rfl⟩) ⟨Nat.le_of_ble_eq_true rfl, Nat.le_of_ble_eq_true rfl⟩ w_174 (Nat.le_of_ble_eq_true rfl) (fun u1 hu1 hcu1 hzu1 => ?_)
  refine sr_putI (k := 6) (pc' := 93) cls_X2 dX2_findOrder_90 rfl s88_46 rfl (by decide) w_175 rfl rfl (fun μ2 hμ2 => ?_)
  refine sr_aload_n (i := 0) (pc' := 94) dX2_findOrder_93 rfl rfl rfl ?_
  refine sr_getR (k := 3) (b := 49) (pc' := 97) cls_X2 dX2_findOrder_94 rfl s88_46 rfl (by decide) w_176 ?_
  refine sr_aload_n (i := 0) (pc' := 98) dX2_findOrder_97 rfl rfl rfl ?_
  refine sr_getR (k := 2) (b := 47) (pc' := 101) cls_X2 dX2_findOrder_98 rfl s88_46 rfl (by decide) w_162 ?_
  refine sr_callVN1_M (pc' := 104) (ord_copyOf_sp isOrder_49 isOrder_47 μ2) dX2_findOrder_101 rfl mg_X1_copyOf mi_X1_copyOf (Or.inl ⟨1, _, TX1, 2, isOrder_49.1, rfl⟩) ⟨Nat.le_of_ble_eq_true rfl, Nat.le_of_ble_eq_true rfl⟩ w_177 (Nat.le_of_ble_eq_true rfl) (fun μ3 hμ3 => ?_)
  exact hk104 x1 μ3
def pla_findOrder_104  (k35 : Int → Mem → Option (Mem)) (x1 : Int) (μ : Mem) : Option (Mem) := (ord_advance 47 μ).bind fun u1 => if u1.1 = 0 then (some u1.2) else (k35 (wI (x1 + 1)) u1.2)
theorem pla_findOrder_104_s {l : Launch} {G : Nv}   {k35 : Int → Mem → Option (Mem)} (hk35 : ∀ (x1 : Int) (μ : Mem) , SR l G S88 mX2_findOrder (k35 x1 μ) jM 35 [some (vR 46), some (vI x1)] [] μ) : ∀ (x1 : Int) (μ : Mem), SR l G S88 mX2_findOrder (pla_findOrder_104 k35 x1 μ) jM 104 [some (vR 46), some (vI x1)] [] μ := by
  intro x1 μ
  unfold pla_findOrder_104
  refine sr_aload_n (i := 0) (pc' := 105) dX2_findOrder_104 rfl rfl rfl ?_
  refine sr_getR (k := 2) (b := 47) (pc' := 108) cls_X2 dX2_findOrder_105 rfl s88_46 rfl (by decide) w_162 ?_
  refine sr_callVN0_IM (pc' := 111) (ord_advance_sp isOrder_47 μ) dX2_findOrder_108 rfl mg_X1_advance mi_X1_advance (Or.inl ⟨1, _, TX1, 2, isOrder_47.1, rfl⟩) ⟨Nat.le_of_ble_eq_true rfl, Nat.le_of_ble_eq_true rfl⟩ w_178 (Nat.le_of_ble_eq_true rfl) (fun u1 hu1 hcu1 hzu1 => ?_)
  refine sr_if_ne (pc' := 114) (tgt := 115) dX2_findOrder_111 rfl rfl (fun c111 => ?_) (fun c111 => ?_)
  · exact sr_ret dX2_findOrder_114 rfl rfl
  · refine sr_iinc (lv' := [some (vR 46), some (vI (wI (x1 + 1)))]) (pc' := 118) dX2_findOrder_115 rfl (by decide) rfl rfl ?_
    refine sr_goto (pc' := 35) dX2_findOrder_118 rfl ?_
    exact hk35 (wI (x1 + 1)) u1.2
def pla_findOrder_35   : Nat → Int → Mem → Option (Mem)
  | 0, _, _ => none
  | n + 1, x1, μ => if 120 ≤ x1 then (some μ) else ((run_allDone 47 (-4) (-4) μ).bind fun u1 => if u1.1 = 0 then (pla_findOrder_104 (pla_findOrder_35 n) x1 u1.2) else (if (u1.2 46 6) = (-4) then (pla_findOrder_82 (pla_findOrder_104 (pla_findOrder_35 n)) x1 u1.2) else ((run_sumOfDone u1.2).bind fun u2 => if (u1.2 46 6) ≤ u2 then (pla_findOrder_104 (pla_findOrder_35 n) x1 u1.2) else (pla_findOrder_82 (pla_findOrder_104 (pla_findOrder_35 n)) x1 u1.2))))
theorem pla_findOrder_35_s {l : Launch} {G : Nv}     : ∀ (n : Nat) (x1 : Int) (μ : Mem), SR l G S88 mX2_findOrder (pla_findOrder_35 n x1 μ) jM 35 [some (vR 46), some (vI x1)] [] μ := by
  intro n
  induction n with
  | zero => intro x1 μ; exact sr_none
  | succ n ih =>
    intro x1 μ
    rw [pla_findOrder_35.eq_2]
    refine sr_iload_n (i := 1) (pc' := 36) dX2_findOrder_35 rfl rfl rfl ?_
    refine sr_bipush (pc' := 38) dX2_findOrder_36 rfl (by decide) (by decide) ?_
    refine sr_icmp_ge (pc' := 41) (tgt := 121) dX2_findOrder_38 rfl rfl (fun c38 => ?_) (fun c38 => ?_)
    · exact sr_ret dX2_findOrder_121 rfl rfl
    · refine sr_aload_n (i := 0) (pc' := 42) dX2_findOrder_41 rfl rfl rfl ?_
      refine sr_getR (k := 1) (b := 35) (pc' := 45) cls_X2 dX2_findOrder_42 rfl s88_46 rfl (by decide) w_161 ?_
      refine sr_aload_n (i := 0) (pc' := 46) dX2_findOrder_45 rfl rfl rfl ?_
      refine sr_getR (k := 2) (b := 47) (pc' := 49) cls_X2 dX2_findOrder_46 rfl s88_46 rfl (by decide) w_162 ?_
      refine sr_bipush (pc' := 51) dX2_findOrder_49 rfl (by decide) (by decide) ?_
      refine sr_bipush (pc' := 53) dX2_findOrder_51 rfl (by decide) (by decide) ?_
      refine sr_callVN3_IM (pc' := 56) (run_allDone_sp isOrder_47 (-4) (-4) μ) dX2_findOrder_53 rfl mg_X5_allDone mi_X5_allDone (Or.inl ⟨5, _, TX5, 13, s88_35, rfl⟩) ⟨Nat.le_of_ble_eq_true rfl, Nat.le_of_ble_eq_true rfl⟩ w_163 (Nat.le_of_ble_eq_true rfl) (fun u1 hu1 hcu1 hzu1 => ?_)
      refine sr_if_eq (pc' := 59) (tgt := 104) dX2_findOrder_56 rfl rfl (fun c56 => ?_) (fun c56 => ?_)
      · exact pla_findOrder_104_s ih x1 u1.2
      · refine sr_aload_n (i := 0) (pc' := 60) dX2_findOrder_59 rfl rfl rfl ?_
        refine sr_getI (k := 6) (pc' := 63) cls_X2 dX2_findOrder_60 rfl s88_46 rfl (by decide) w_175 ?_
        refine sr_bipush (pc' := 65) dX2_findOrder_63 rfl (by decide) (by decide) ?_
        refine sr_icmp_eq (pc' := 68) (tgt := 82) dX2_findOrder_65 rfl rfl (fun c65 => ?_) (fun c65 => ?_)
        · exact pla_findOrder_82_s (pla_findOrder_104_s ih) x1 u1.2
        · refine sr_aload_n (i := 0) (pc' := 69) dX2_findOrder_68 rfl rfl rfl ?_
          refine sr_getR (k := 1) (b := 35) (pc' := 72) cls_X2 dX2_findOrder_69 rfl s88_46 rfl (by decide) w_161 ?_
          refine sr_callVN0_I (pc' := 75) (run_sumOfDone_sp u1.2) dX2_findOrder_72 rfl mg_X5_sumOfDone mi_X5_sumOfDone (Or.inl ⟨5, _, TX5, 13, s88_35, rfl⟩) ⟨Nat.le_of_ble_eq_true rfl, Nat.le_of_ble_eq_true rfl⟩ w_174 (Nat.le_of_ble_eq_true rfl) (fun u2 hu2 hcu2 hzu2 => ?_)
          refine sr_aload_n (i := 0) (pc' := 76) dX2_findOrder_75 rfl rfl rfl ?_
          refine sr_getI (k := 6) (pc' := 79) cls_X2 dX2_findOrder_76 rfl s88_46 rfl (by decide) w_175 ?_
          refine sr_icmp_ge (pc' := 82) (tgt := 104) dX2_findOrder_79 rfl rfl (fun c79 => ?_) (fun c79 => ?_)
          · exact pla_findOrder_104_s ih x1 u1.2
          · exact pla_findOrder_82_s (pla_findOrder_104_s ih) x1 u1.2
def pla_findOrder   (μ : Mem) : Option (Mem) := if (μ 46 4) = 0 then (bnd (mset μ 46 4 1) fun μ1 => bnd (mset μ1 46 6 (-4)) fun μ2 => (ord_begin 47 (μ2 1 10) μ2).bind fun μ3 => pla_findOrder_35 BIG 0 μ3) else (some μ)
theorem pla_findOrder_sp {l : Launch} {G : Nv}   (μ : Mem) : SP l G S88 mX2_findOrder [vR 46] μ (pla_findOrder μ) jM := by
  refine sp_go (lv := [some (vR 46), none]) pn_X2 (Nat.le_of_ble_eq_true rfl) rfl ?_
  unfold pla_findOrder
  refine sr_aload_n (i := 0) (pc' := 1) dX2_findOrder_0 rfl rfl rfl ?_
  refine sr_getZ (k := 4) (pc' := 4) cls_X2 dX2_findOrder_1 rfl s88_46 rfl (by decide) w_15 ?_
  refine sr_if_eq (pc' := 7) (tgt := 8) dX2_findOrder_4 rfl rfl (fun c4 => ?_) (fun c4 => ?_)
  · refine sr_aload_n (i := 0) (pc' := 9) dX2_findOrder_8 rfl rfl rfl ?_
    refine sr_iconst (pc' := 10) dX2_findOrder_9 rfl (by decide) ?_
    refine sr_putZ (k := 4) (pc' := 13) cls_X2 dX2_findOrder_10 rfl s88_46 rfl (by decide) w_15 rfl rfl (Or.inr rfl) (fun μ1 hμ1 => ?_)
    refine sr_aload_n (i := 0) (pc' := 14) dX2_findOrder_13 rfl rfl rfl ?_
    refine sr_bipush (pc' := 16) dX2_findOrder_14 rfl (by decide) (by decide) ?_
    refine sr_putI (k := 6) (pc' := 19) cls_X2 dX2_findOrder_16 rfl s88_46 rfl (by decide) w_175 rfl rfl (fun μ2 hμ2 => ?_)
    refine sr_aload_n (i := 0) (pc' := 20) dX2_findOrder_19 rfl rfl rfl ?_
    refine sr_getR (k := 2) (b := 47) (pc' := 23) cls_X2 dX2_findOrder_20 rfl s88_46 rfl (by decide) w_162 ?_
    refine sr_aload_n (i := 0) (pc' := 24) dX2_findOrder_23 rfl rfl rfl ?_
    refine sr_getR (k := 0) (b := 1) (pc' := 27) cls_X2 dX2_findOrder_24 rfl s88_46 rfl (by decide) w_154 ?_
    refine sr_getI (k := 10) (pc' := 30) cls_X4 dX2_findOrder_27 rfl isRoad_1.1 rfl (by decide) w_164 ?_
    refine sr_callVN1_M (pc' := 33) (ord_begin_sp isOrder_47 (μ2 1 10) μ2) dX2_findOrder_30 rfl mg_X1_begin mi_X1_begin (Or.inl ⟨1, _, TX1, 2, isOrder_47.1, rfl⟩) ⟨Nat.le_of_ble_eq_true rfl, Nat.le_of_ble_eq_true rfl⟩ w_165 (Nat.le_of_ble_eq_true rfl) (fun μ3 hμ3 => ?_)
    refine sr_iconst (pc' := 34) dX2_findOrder_33 rfl (by decide) ?_
    refine sr_istore_n (i := 1) (lv' := [some (vR 46), some (vI 0)]) (pc' := 35) dX2_findOrder_34 rfl rfl (by decide) rfl ?_
    exact pla_findOrder_35_s BIG 0 μ3
  · exact sr_ret dX2_findOrder_7 rfl rfl
def ww_order_22   (x1 : Int) (μ : Mem) : Option (Int × Mem) := if (μ 1 10) = 0 then (some ((-2), μ)) else ((pla_findOrder μ).bind fun μ1 => if (μ1 46 6) = (-4) then (some ((-4), μ1)) else (if x1 = 0 then (some (μ1 46 6, μ1)) else ((ww_at 50 5 μ1 (wI (x1 - 10))).bind fun u2 => some (u2, μ1))))
theorem ww_order_22_s {l : Launch} {G : Nv}     : ∀ (x1 : Int) (μ : Mem), SR l G S88 mX8_order (ww_order_22 x1 μ) jIM 22 [some (vR 0), some (vI x1)] [] μ := by
  intro x1 μ
  unfold ww_order_22
  refine sr_aload_n (i := 0) (pc' := 23) dX8_order_22 rfl rfl rfl ?_
  refine sr_getR (k := 0) (b := 1) (pc' := 26) cls_X8 dX8_order_23 rfl s88_0 rfl (by decide) w_19 ?_
  refine sr_getI (k := 10) (pc' := 29) cls_X4 dX8_order_26 rfl isRoad_1.1 rfl (by decide) w_24 ?_
  refine sr_if_ne (pc' := 32) (tgt := 35) dX8_order_29 rfl rfl (fun c29 => ?_) (fun c29 => ?_)
  · refine sr_bipush (pc' := 34) dX8_order_32 rfl (by decide) (by decide) ?_
    exact sr_iretI dX8_order_34 rfl rfl
  · refine sr_aload_n (i := 0) (pc' := 36) dX8_order_35 rfl rfl rfl ?_
    refine sr_getR (k := 6) (b := 46) (pc' := 39) cls_X8 dX8_order_36 rfl s88_0 rfl (by decide) w_22 ?_
    refine sr_callVN0_M (pc' := 42) (pla_findOrder_sp μ) dX8_order_39 rfl mg_X2_findOrder mi_X2_findOrder (Or.inl ⟨2, _, TX2, 10, s88_46, rfl⟩) ⟨Nat.le_of_ble_eq_true rfl, Nat.le_of_ble_eq_true rfl⟩ w_179 (Nat.le_of_ble_eq_true rfl) (fun μ1 hμ1 => ?_)
    refine sr_aload_n (i := 0) (pc' := 43) dX8_order_42 rfl rfl rfl ?_
    refine sr_getR (k := 6) (b := 46) (pc' := 46) cls_X8 dX8_order_43 rfl s88_0 rfl (by decide) w_22 ?_
    refine sr_getIN (k := 6) (pc' := 49) cls_X2 dX8_order_46 rfl s88_46 rfl (by decide) w_180 ?_
    refine sr_bipush (pc' := 51) dX8_order_49 rfl (by decide) (by decide) ?_
    refine sr_icmp_ne (pc' := 54) (tgt := 57) dX8_order_51 rfl rfl (fun c51 => ?_) (fun c51 => ?_)
    · refine sr_bipush (pc' := 56) dX8_order_54 rfl (by decide) (by decide) ?_
      exact sr_iretI dX8_order_56 rfl rfl
    · refine sr_iload_n (i := 1) (pc' := 58) dX8_order_57 rfl rfl rfl ?_
      refine sr_if_ne (pc' := 61) (tgt := 71) dX8_order_58 rfl rfl (fun c58 => ?_) (fun c58 => ?_)
      · refine sr_aload_n (i := 0) (pc' := 62) dX8_order_61 rfl rfl rfl ?_
        refine sr_getR (k := 6) (b := 46) (pc' := 65) cls_X8 dX8_order_62 rfl s88_0 rfl (by decide) w_22 ?_
        refine sr_getIN (k := 6) (pc' := 68) cls_X2 dX8_order_65 rfl s88_46 rfl (by decide) w_180 ?_
        refine sr_goto (pc' := 88) dX8_order_68 rfl ?_
        exact sr_iretI dX8_order_88 rfl rfl
      · refine sr_aload_n (i := 0) (pc' := 72) dX8_order_71 rfl rfl rfl ?_
        refine sr_getR (k := 6) (b := 46) (pc' := 75) cls_X8 dX8_order_72 rfl s88_0 rfl (by decide) w_22 ?_
        refine sr_getRN (k := 3) (b := 49) (pc' := 78) cls_X2 dX8_order_75 rfl s88_46 rfl (by decide) w_181 ?_
        refine sr_getRN (k := 0) (b := 50) (pc' := 81) cls_X1 dX8_order_78 rfl isOrder_49.1 rfl (by decide) w_182 ?_
        refine sr_iload_n (i := 1) (pc' := 82) dX8_order_81 rfl rfl rfl ?_
        refine sr_bipush (pc' := 84) dX8_order_82 rfl (by decide) (by decide) ?_
        refine sr_isub (pc' := 85) dX8_order_84 rfl ?_
        refine sr_callS2_I (pc' := 88) (ww_at_sp isOrder_49.2 (by decide) (wI (x1 - 10)) μ1) dX8_order_85 rfl mg_X8_at ms_X8_at ⟨Nat.le_of_ble_eq_true rfl, Nat.le_of_ble_eq_true rfl⟩ w_48 (Nat.le_of_ble_eq_true rfl) (fun u2 hu2 hcu2 hzu2 => ?_)
        exact sr_iretI dX8_order_88 rfl rfl
def ww_order   (x1 : Int) (μ : Mem) : Option (Int × Mem) := if x1 = 0 then (ww_order_22 x1 μ) else ((ww_less μ x1 10).bind fun u1 => (roa_hasCart 1 μ u1).bind fun u2 => if u2 = 0 then (some ((-1), μ)) else (ww_order_22 x1 μ))
theorem ww_order_sp {l : Launch} {G : Nv}   (x1 : Int) (μ : Mem) : SP l G S88 mX8_order [vR 0, vI x1] μ (ww_order x1 μ) jIM := by
  refine sp_go (lv := [some (vR 0), some (vI x1)]) pn_X8 (Nat.le_of_ble_eq_true rfl) rfl ?_
  unfold ww_order
  refine sr_iload_n (i := 1) (pc' := 1) dX8_order_0 rfl rfl rfl ?_
  refine sr_if_eq (pc' := 4) (tgt := 22) dX8_order_1 rfl rfl (fun c1 => ?_) (fun c1 => ?_)
  · exact ww_order_22_s x1 μ
  · refine sr_aload_n (i := 0) (pc' := 5) dX8_order_4 rfl rfl rfl ?_
    refine sr_getR (k := 0) (b := 1) (pc' := 8) cls_X8 dX8_order_5 rfl s88_0 rfl (by decide) w_19 ?_
    refine sr_iload_n (i := 1) (pc' := 9) dX8_order_8 rfl rfl rfl ?_
    refine sr_bipush (pc' := 11) dX8_order_9 rfl (by decide) (by decide) ?_
    refine sr_callS2_I (pc' := 14) (ww_less_sp x1 10 μ) dX8_order_11 rfl mg_X8_less ms_X8_less ⟨Nat.le_of_ble_eq_true rfl, Nat.le_of_ble_eq_true rfl⟩ w_183 (Nat.le_of_ble_eq_true rfl) (fun u1 hu1 hcu1 hzu1 => ?_)
    refine sr_callVN1_I (pc' := 17) (roa_hasCart_sp isRoad_1 u1 μ) dX8_order_14 rfl mg_X4_hasCart mi_X4_hasCart (Or.inl ⟨4, _, TX4, 12, isRoad_1.1, rfl⟩) ⟨Nat.le_of_ble_eq_true rfl, Nat.le_of_ble_eq_true rfl⟩ w_42 (Nat.le_of_ble_eq_true rfl) (fun u2 hu2 hcu2 hzu2 => ?_)
    refine sr_if_ne (pc' := 20) (tgt := 22) dX8_order_17 rfl rfl (fun c17 => ?_) (fun c17 => ?_)
    · refine sr_iconst (pc' := 21) dX8_order_20 rfl (by decide) ?_
      exact sr_iretI dX8_order_21 rfl rfl
    · exact ww_order_22_s x1 μ
def roa_trackAt (r : Nat) (μ : Mem)  (x1 : Int) : Option (Int) := (ww_at (r + 7) 8 μ x1).bind fun u1 => some u1
theorem roa_trackAt_sp {l : Launch} {G : Nv} {Sh : Shp} {r : Nat} (hr : IsRoad Sh r) (x1 : Int) (μ : Mem) : SP l G Sh mX4_trackAt [vR r, vI x1] μ (roa_trackAt r μ x1) (jI μ) := by
  refine sp_go (lv := [some (vR r), some (vI x1)]) pn_X4 (Nat.le_of_ble_eq_true rfl) rfl ?_
  unfold roa_trackAt
  refine sr_aload_n (i := 0) (pc' := 1) dX4_trackAt_0 rfl rfl rfl ?_
  refine sr_getR (k := 6) (b := (r + 7)) (pc' := 4) cls_X4 dX4_trackAt_1 rfl hr.1 rfl (by decide) w_9 ?_
  refine sr_iload_n (i := 1) (pc' := 5) dX4_trackAt_4 rfl rfl rfl ?_
  refine sr_callSN2_I (pc' := 8) (ww_at_sp hr.2.2.2.2.2.2.2 (by decide) x1 μ) dX4_trackAt_5 rfl mg_X8_at ms_X8_at ⟨Nat.le_of_ble_eq_true rfl, Nat.le_of_ble_eq_true rfl⟩ w_89 (Nat.le_of_ble_eq_true rfl) (fun u1 hu1 hcu1 hzu1 => ?_)
  exact sr_iretI dX4_trackAt_8 rfl rfl
def roa_makesTrack (r : Nat) (μ : Mem)  (x1 x2 : Int) : Option (Int) := (roa_part r μ x1 0).bind fun u1 => if u1 = 2 then (some 0) else ((roa_part r μ x1 4).bind fun u2 => (roa_part r μ x1 5).bind fun u3 => if u3 ≤ u2 then (if u2 ≤ x2 then (some 0) else (if x2 < u3 then (some 0) else (some 1))) else (if x2 ≤ u2 then (some 0) else (if u3 < x2 then (some 0) else (some 1))))
theorem roa_makesTrack_sp {l : Launch} {G : Nv} {Sh : Shp} {r : Nat} (hr : IsRoad Sh r) (x1 x2 : Int) (μ : Mem) : SP l G Sh mX4_makesTrack [vR r, vI x1, vI x2] μ (roa_makesTrack r μ x1 x2) (jI μ) := by
  refine sp_go (lv := [some (vR r), some (vI x1), some (vI x2), none, none]) pn_X4 (Nat.le_of_ble_eq_true rfl) rfl ?_
  unfold roa_makesTrack
  refine sr_aload_n (i := 0) (pc' := 1) dX4_makesTrack_0 rfl rfl rfl ?_
  refine sr_iload_n (i := 1) (pc' := 2) dX4_makesTrack_1 rfl rfl rfl ?_
  refine sr_iconst (pc' := 3) dX4_makesTrack_2 rfl (by decide) ?_
  refine sr_callV2_I (pc' := 6) (roa_part_sp hr x1 0 μ) dX4_makesTrack_3 rfl mg_X4_part mi_X4_part (Or.inl ⟨4, _, TX4, 12, hr.1, rfl⟩) ⟨Nat.le_of_ble_eq_true rfl, Nat.le_of_ble_eq_true rfl⟩ w_32 (Nat.le_of_ble_eq_true rfl) (fun u1 hu1 hcu1 hzu1 => ?_)
  refine sr_iconst (pc' := 7) dX4_makesTrack_6 rfl (by decide) ?_
  refine sr_icmp_ne (pc' := 10) (tgt := 12) dX4_makesTrack_7 rfl rfl (fun c7 => ?_) (fun c7 => ?_)
  · refine sr_iconst (pc' := 11) dX4_makesTrack_10 rfl (by decide) ?_
    exact sr_iretZ dX4_makesTrack_11 rfl (Or.inl rfl) rfl
  · refine sr_aload_n (i := 0) (pc' := 13) dX4_makesTrack_12 rfl rfl rfl ?_
    refine sr_iload_n (i := 1) (pc' := 14) dX4_makesTrack_13 rfl rfl rfl ?_
    refine sr_iconst (pc' := 15) dX4_makesTrack_14 rfl (by decide) ?_
    refine sr_callV2_I (pc' := 18) (roa_part_sp hr x1 4 μ) dX4_makesTrack_15 rfl mg_X4_part mi_X4_part (Or.inl ⟨4, _, TX4, 12, hr.1, rfl⟩) ⟨Nat.le_of_ble_eq_true rfl, Nat.le_of_ble_eq_true rfl⟩ w_32 (Nat.le_of_ble_eq_true rfl) (fun u2 hu2 hcu2 hzu2 => ?_)
    refine sr_istore_n (i := 3) (lv' := [some (vR r), some (vI x1), some (vI x2), some (vI u2), none]) (pc' := 19) dX4_makesTrack_18 rfl rfl (by decide) rfl ?_
    refine sr_aload_n (i := 0) (pc' := 20) dX4_makesTrack_19 rfl rfl rfl ?_
    refine sr_iload_n (i := 1) (pc' := 21) dX4_makesTrack_20 rfl rfl rfl ?_
    refine sr_iconst (pc' := 22) dX4_makesTrack_21 rfl (by decide) ?_
    refine sr_callV2_I (pc' := 25) (roa_part_sp hr x1 5 μ) dX4_makesTrack_22 rfl mg_X4_part mi_X4_part (Or.inl ⟨4, _, TX4, 12, hr.1, rfl⟩) ⟨Nat.le_of_ble_eq_true rfl, Nat.le_of_ble_eq_true rfl⟩ w_32 (Nat.le_of_ble_eq_true rfl) (fun u3 hu3 hcu3 hzu3 => ?_)
    refine sr_istore (lv' := [some (vR r), some (vI x1), some (vI x2), some (vI u2), some (vI u3)]) (pc' := 27) dX4_makesTrack_25 rfl (by decide) rfl ?_
    refine sr_iload_n (i := 3) (pc' := 28) dX4_makesTrack_27 rfl rfl rfl ?_
    refine sr_iload (pc' := 30) dX4_makesTrack_28 rfl rfl ?_
    refine sr_icmp_ge (pc' := 33) (tgt := 52) dX4_makesTrack_30 rfl rfl (fun c30 => ?_) (fun c30 => ?_)
    · refine sr_iload_n (i := 2) (pc' := 53) dX4_makesTrack_52 rfl rfl rfl ?_
      refine sr_iload_n (i := 3) (pc' := 54) dX4_makesTrack_53 rfl rfl rfl ?_
      refine sr_icmp_ge (pc' := 57) (tgt := 67) dX4_makesTrack_54 rfl rfl (fun c54 => ?_) (fun c54 => ?_)
      · refine sr_iconst (pc' := 68) dX4_makesTrack_67 rfl (by decide) ?_
        exact sr_iretZ dX4_makesTrack_68 rfl (Or.inl rfl) rfl
      · refine sr_iload_n (i := 2) (pc' := 58) dX4_makesTrack_57 rfl rfl rfl ?_
        refine sr_iload (pc' := 60) dX4_makesTrack_58 rfl rfl ?_
        refine sr_icmp_lt (pc' := 63) (tgt := 67) dX4_makesTrack_60 rfl rfl (fun c60 => ?_) (fun c60 => ?_)
        · refine sr_iconst (pc' := 68) dX4_makesTrack_67 rfl (by decide) ?_
          exact sr_iretZ dX4_makesTrack_68 rfl (Or.inl rfl) rfl
        · refine sr_iconst (pc' := 64) dX4_makesTrack_63 rfl (by decide) ?_
          refine sr_goto (pc' := 68) dX4_makesTrack_64 rfl ?_
          exact sr_iretZ dX4_makesTrack_68 rfl (Or.inr rfl) rfl
    · refine sr_iload_n (i := 2) (pc' := 34) dX4_makesTrack_33 rfl rfl rfl ?_
      refine sr_iload_n (i := 3) (pc' := 35) dX4_makesTrack_34 rfl rfl rfl ?_
      refine sr_icmp_le (pc' := 38) (tgt := 48) dX4_makesTrack_35 rfl rfl (fun c35 => ?_) (fun c35 => ?_)
      · refine sr_iconst (pc' := 49) dX4_makesTrack_48 rfl (by decide) ?_
        refine sr_goto (pc' := 68) dX4_makesTrack_49 rfl ?_
        exact sr_iretZ dX4_makesTrack_68 rfl (Or.inl rfl) rfl
      · refine sr_iload_n (i := 2) (pc' := 39) dX4_makesTrack_38 rfl rfl rfl ?_
        refine sr_iload (pc' := 41) dX4_makesTrack_39 rfl rfl ?_
        refine sr_icmp_gt (pc' := 44) (tgt := 48) dX4_makesTrack_41 rfl rfl (fun c41 => ?_) (fun c41 => ?_)
        · refine sr_iconst (pc' := 49) dX4_makesTrack_48 rfl (by decide) ?_
          refine sr_goto (pc' := 68) dX4_makesTrack_49 rfl ?_
          exact sr_iretZ dX4_makesTrack_68 rfl (Or.inl rfl) rfl
        · refine sr_iconst (pc' := 45) dX4_makesTrack_44 rfl (by decide) ?_
          refine sr_goto (pc' := 68) dX4_makesTrack_45 rfl ?_
          exact sr_iretZ dX4_makesTrack_68 rfl (Or.inr rfl) rfl
def fit_lastIn_10 (μ : Mem)  : Nat → Int → Int → Option (Int)
  | 0, _, _ => none
  | n + 1, x1, x2 => if x2 < 0 then (some (-4)) else ((ww_at 55 5 μ x2).bind fun u1 => (roa_makesTrack 1 μ u1 x1).bind fun u2 => if u2 = 0 then (fit_lastIn_10 μ n x1 (wI (x2 + (-1)))) else ((ww_at 55 5 μ x2).bind fun u3 => some u3))
theorem fit_lastIn_10_s {l : Launch} {G : Nv}   (μ : Mem)   : ∀ (n : Nat) (x1 x2 : Int), SR l G S88 mX0_lastIn (fit_lastIn_10 μ n x1 x2) (jI μ) 10 [some (vR 53), some (vI x1), some (vI x2)] [] μ := by
  intro n
  induction n with
  | zero => intro x1 x2; exact sr_none
  | succ n ih =>
    intro x1 x2
    rw [fit_lastIn_10.eq_2]
    refine sr_iload_n (i := 2) (pc' := 11) dX0_lastIn_10 rfl rfl rfl ?_
    refine sr_if_lt (pc' := 14) (tgt := 54) dX0_lastIn_11 rfl rfl (fun c11 => ?_) (fun c11 => ?_)
    · refine sr_bipush (pc' := 56) dX0_lastIn_54 rfl (by decide) (by decide) ?_
      exact sr_iretI dX0_lastIn_56 rfl rfl
    · refine sr_aload_n (i := 0) (pc' := 15) dX0_lastIn_14 rfl rfl rfl ?_
      refine sr_getR (k := 0) (b := 1) (pc' := 18) cls_X0 dX0_lastIn_15 rfl s88_53 rfl (by decide) w_184 ?_
      refine sr_aload_n (i := 0) (pc' := 19) dX0_lastIn_18 rfl rfl rfl ?_
      refine sr_getR (k := 1) (b := 54) (pc' := 22) cls_X0 dX0_lastIn_19 rfl s88_53 rfl (by decide) w_185 ?_
      refine sr_getRN (k := 0) (b := 55) (pc' := 25) cls_X1 dX0_lastIn_22 rfl isOrder_54.1 rfl (by decide) w_186 ?_
      refine sr_iload_n (i := 2) (pc' := 26) dX0_lastIn_25 rfl rfl rfl ?_
      refine sr_callSN2_I (pc' := 29) (ww_at_sp isOrder_54.2 (by decide) x2 μ) dX0_lastIn_26 rfl mg_X8_at ms_X8_at ⟨Nat.le_of_ble_eq_true rfl, Nat.le_of_ble_eq_true rfl⟩ w_187 (Nat.le_of_ble_eq_true rfl) (fun u1 hu1 hcu1 hzu1 => ?_)
      refine sr_iload_n (i := 1) (pc' := 30) dX0_lastIn_29 rfl rfl rfl ?_
      refine sr_callVN2_I (pc' := 33) (roa_makesTrack_sp isRoad_1 u1 x1 μ) dX0_lastIn_30 rfl mg_X4_makesTrack mi_X4_makesTrack (Or.inl ⟨4, _, TX4, 12, isRoad_1.1, rfl⟩) ⟨Nat.le_of_ble_eq_true rfl, Nat.le_of_ble_eq_true rfl⟩ w_188 (Nat.le_of_ble_eq_true rfl) (fun u2 hu2 hcu2 hzu2 => ?_)
      refine sr_if_eq (pc' := 36) (tgt := 48) dX0_lastIn_33 rfl rfl (fun c33 => ?_) (fun c33 => ?_)
      · refine sr_iinc (lv' := [some (vR 53), some (vI x1), some (vI (wI (x2 + (-1))))]) (pc' := 51) dX0_lastIn_48 rfl (by decide) rfl rfl ?_
        refine sr_goto (pc' := 10) dX0_lastIn_51 rfl ?_
        exact ih x1 (wI (x2 + (-1)))
      · refine sr_aload_n (i := 0) (pc' := 37) dX0_lastIn_36 rfl rfl rfl ?_
        refine sr_getR (k := 1) (b := 54) (pc' := 40) cls_X0 dX0_lastIn_37 rfl s88_53 rfl (by decide) w_185 ?_
        refine sr_getRN (k := 0) (b := 55) (pc' := 43) cls_X1 dX0_lastIn_40 rfl isOrder_54.1 rfl (by decide) w_186 ?_
        refine sr_iload_n (i := 2) (pc' := 44) dX0_lastIn_43 rfl rfl rfl ?_
        refine sr_callSN2_I (pc' := 47) (ww_at_sp isOrder_54.2 (by decide) x2 μ) dX0_lastIn_44 rfl mg_X8_at ms_X8_at ⟨Nat.le_of_ble_eq_true rfl, Nat.le_of_ble_eq_true rfl⟩ w_187 (Nat.le_of_ble_eq_true rfl) (fun u3 hu3 hcu3 hzu3 => ?_)
        exact sr_iretI dX0_lastIn_47 rfl rfl
def fit_lastIn (μ : Mem)  (x1 : Int) : Option (Int) := bnd (wI ((μ 54 1) - 1)) fun v1 => fit_lastIn_10 μ BIG x1 v1
theorem fit_lastIn_sp {l : Launch} {G : Nv}   (x1 : Int) (μ : Mem) : SP l G S88 mX0_lastIn [vR 53, vI x1] μ (fit_lastIn μ x1) (jI μ) := by
  refine sp_go (lv := [some (vR 53), some (vI x1), none]) pn_X0 (Nat.le_of_ble_eq_true rfl) rfl ?_
  unfold fit_lastIn
  refine sr_aload_n (i := 0) (pc' := 1) dX0_lastIn_0 rfl rfl rfl ?_
  refine sr_getR (k := 1) (b := 54) (pc' := 4) cls_X0 dX0_lastIn_1 rfl s88_53 rfl (by decide) w_185 ?_
  refine sr_getIN (k := 1) (pc' := 7) cls_X1 dX0_lastIn_4 rfl isOrder_54.1 rfl (by decide) w_189 ?_
  refine sr_iconst (pc' := 8) dX0_lastIn_7 rfl (by decide) ?_
  refine sr_isub (pc' := 9) dX0_lastIn_8 rfl ?_
  refine sr_bnd (fun v1 hv1 => ?_)
  refine sr_istore_n (i := 2) (lv' := [some (vR 53), some (vI x1), some (vI v1)]) (pc' := 10) dX0_lastIn_9 rfl rfl (by decide) rfl ?_
  exact fit_lastIn_10_s μ BIG x1 v1
def fit_isFitting_2 (μ : Mem)  : Nat → Int → Option (Int)
  | 0, _ => none
  | n + 1, x1 => if (μ 1 11) ≤ x1 then (some 1) else ((roa_trackAt 1 μ x1).bind fun u1 => (fit_lastIn μ (iDiv u1 3)).bind fun u2 => if u2 < 0 then (some 0) else ((roa_part 1 μ u2 1).bind fun u3 => (roa_trackAt 1 μ x1).bind fun u4 => if u3 = (iRem u4 3) then (fit_isFitting_2 μ n (wI (x1 + 1))) else (some 0)))
theorem fit_isFitting_2_s {l : Launch} {G : Nv}   (μ : Mem)   : ∀ (n : Nat) (x1 : Int), SR l G S88 mX0_isFitting (fit_isFitting_2 μ n x1) (jI μ) 2 [some (vR 53), some (vI x1), none] [] μ := by
  intro n
  induction n with
  | zero => intro x1; exact sr_none
  | succ n ih =>
    intro x1
    rw [fit_isFitting_2.eq_2]
    refine sr_iload_n (i := 1) (pc' := 3) dX0_isFitting_2 rfl rfl rfl ?_
    refine sr_aload_n (i := 0) (pc' := 4) dX0_isFitting_3 rfl rfl rfl ?_
    refine sr_getR (k := 0) (b := 1) (pc' := 7) cls_X0 dX0_isFitting_4 rfl s88_53 rfl (by decide) w_184 ?_
    refine sr_getI (k := 11) (pc' := 10) cls_X4 dX0_isFitting_7 rfl isRoad_1.1 rfl (by decide) w_190 ?_
    refine sr_icmp_ge (pc' := 13) (tgt := 62) dX0_isFitting_10 rfl rfl (fun c10 => ?_) (fun c10 => ?_)
    · refine sr_iconst (pc' := 63) dX0_isFitting_62 rfl (by decide) ?_
      exact sr_iretZ dX0_isFitting_63 rfl (Or.inr rfl) rfl
    · refine sr_aload_n (i := 0) (pc' := 14) dX0_isFitting_13 rfl rfl rfl ?_
      refine sr_aload_n (i := 0) (pc' := 15) dX0_isFitting_14 rfl rfl rfl ?_
      refine sr_getR (k := 0) (b := 1) (pc' := 18) cls_X0 dX0_isFitting_15 rfl s88_53 rfl (by decide) w_184 ?_
      refine sr_iload_n (i := 1) (pc' := 19) dX0_isFitting_18 rfl rfl rfl ?_
      refine sr_callVN1_I (pc' := 22) (roa_trackAt_sp isRoad_1 x1 μ) dX0_isFitting_19 rfl mg_X4_trackAt mi_X4_trackAt (Or.inl ⟨4, _, TX4, 12, isRoad_1.1, rfl⟩) ⟨Nat.le_of_ble_eq_true rfl, Nat.le_of_ble_eq_true rfl⟩ w_191 (Nat.le_of_ble_eq_true rfl) (fun u1 hu1 hcu1 hzu1 => ?_)
      refine sr_iconst (pc' := 23) dX0_isFitting_22 rfl (by decide) ?_
      refine sr_idiv (pc' := 24) dX0_isFitting_23 rfl (by decide) ?_
      refine sr_callV1_I (pc' := 27) (fit_lastIn_sp (iDiv u1 3) μ) dX0_isFitting_24 rfl mg_X0_lastIn mi_X0_lastIn (Or.inl ⟨0, _, TX0, 5, s88_53, rfl⟩) ⟨Nat.le_of_ble_eq_true rfl, Nat.le_of_ble_eq_true rfl⟩ w_192 (Nat.le_of_ble_eq_true rfl) (fun u2 hu2 hcu2 hzu2 => ?_)
      refine sr_istore_n (i := 2) (lv' := [some (vR 53), some (vI x1), some (vI u2)]) (pc' := 28) dX0_isFitting_27 rfl rfl (by decide) rfl ?_
      refine sr_iload_n (i := 2) (pc' := 29) dX0_isFitting_28 rfl rfl rfl ?_
      refine sr_if_lt (pc' := 32) (tgt := 54) dX0_isFitting_29 rfl rfl (fun c29 => ?_) (fun c29 => ?_)
      · refine sr_iconst (pc' := 55) dX0_isFitting_54 rfl (by decide) ?_
        exact sr_iretZ dX0_isFitting_55 rfl (Or.inl rfl) rfl
      · refine sr_aload_n (i := 0) (pc' := 33) dX0_isFitting_32 rfl rfl rfl ?_
        refine sr_getR (k := 0) (b := 1) (pc' := 36) cls_X0 dX0_isFitting_33 rfl s88_53 rfl (by decide) w_184 ?_
        refine sr_iload_n (i := 2) (pc' := 37) dX0_isFitting_36 rfl rfl rfl ?_
        refine sr_iconst (pc' := 38) dX0_isFitting_37 rfl (by decide) ?_
        refine sr_callVN2_I (pc' := 41) (roa_part_sp isRoad_1 u2 1 μ) dX0_isFitting_38 rfl mg_X4_part mi_X4_part (Or.inl ⟨4, _, TX4, 12, isRoad_1.1, rfl⟩) ⟨Nat.le_of_ble_eq_true rfl, Nat.le_of_ble_eq_true rfl⟩ w_193 (Nat.le_of_ble_eq_true rfl) (fun u3 hu3 hcu3 hzu3 => ?_)
        refine sr_aload_n (i := 0) (pc' := 42) dX0_isFitting_41 rfl rfl rfl ?_
        refine sr_getR (k := 0) (b := 1) (pc' := 45) cls_X0 dX0_isFitting_42 rfl s88_53 rfl (by decide) w_184 ?_
        refine sr_iload_n (i := 1) (pc' := 46) dX0_isFitting_45 rfl rfl rfl ?_
        refine sr_callVN1_I (pc' := 49) (roa_trackAt_sp isRoad_1 x1 μ) dX0_isFitting_46 rfl mg_X4_trackAt mi_X4_trackAt (Or.inl ⟨4, _, TX4, 12, isRoad_1.1, rfl⟩) ⟨Nat.le_of_ble_eq_true rfl, Nat.le_of_ble_eq_true rfl⟩ w_191 (Nat.le_of_ble_eq_true rfl) (fun u4 hu4 hcu4 hzu4 => ?_)
        refine sr_iconst (pc' := 50) dX0_isFitting_49 rfl (by decide) ?_
        refine sr_irem (pc' := 51) dX0_isFitting_50 rfl (by decide) ?_
        refine sr_icmp_eq (pc' := 54) (tgt := 56) dX0_isFitting_51 rfl rfl (fun c51 => ?_) (fun c51 => ?_)
        · refine sr_iinc (lv' := [some (vR 53), some (vI (wI (x1 + 1))), some (vI u2)]) (pc' := 59) dX0_isFitting_56 rfl (by decide) rfl rfl ?_
          refine sr_goto (pc' := 2) dX0_isFitting_59 rfl ?_
          refine sr_fgt (fgt_s (fgt_s (fgt_n fgt_nil))) ?_
          exact ih (wI (x1 + 1))
        · refine sr_iconst (pc' := 55) dX0_isFitting_54 rfl (by decide) ?_
          exact sr_iretZ dX0_isFitting_55 rfl (Or.inl rfl) rfl
def fit_isFitting (μ : Mem)  : Option (Int) := fit_isFitting_2 μ BIG 0
theorem fit_isFitting_sp {l : Launch} {G : Nv}   (μ : Mem) : SP l G S88 mX0_isFitting [vR 53] μ (fit_isFitting μ) (jI μ) := by
  refine sp_go (lv := [some (vR 53), none, none]) pn_X0 (Nat.le_of_ble_eq_true rfl) rfl ?_
  unfold fit_isFitting
  refine sr_iconst (pc' := 1) dX0_isFitting_0 rfl (by decide) ?_
  refine sr_istore_n (i := 1) (lv' := [some (vR 53), some (vI 0), none]) (pc' := 2) dX0_isFitting_1 rfl rfl (by decide) rfl ?_
  exact fit_isFitting_2_s μ BIG 0
def fit_find_60  (k92 : Int → Int → Mem → Option (Mem)) (x1 x2 : Int) (μ : Mem) : Option (Mem) := bnd (mset μ 53 3 (wI ((μ 53 3) + 1))) fun μ1 => (fit_lastIn μ1 x1).bind fun u2 => if u2 < 0 then (k92 x1 x2 μ1) else (bnd (mset μ1 53 4 (iOr (μ1 53 4) (iShl 1 u2))) fun μ3 => k92 x1 x2 μ3)
theorem fit_find_60_s {l : Launch} {G : Nv}   {k92 : Int → Int → Mem → Option (Mem)} (hk92 : ∀ (x1 x2 : Int) (μ : Mem) , SR l G S88 mX0_find (k92 x1 x2 μ) jM 92 [some (vR 53), some (vI x1), some (vI x2), none] [] μ) : ∀ (x1 x2 : Int) (μ : Mem), SR l G S88 mX0_find (fit_find_60 k92 x1 x2 μ) jM 60 [some (vR 53), some (vI x1), some (vI x2), none] [] μ := by
  intro x1 x2 μ
  unfold fit_find_60
  refine sr_aload_n (i := 0) (pc' := 61) dX0_find_60 rfl rfl rfl ?_
  refine sr_dup (pc' := 62) dX0_find_61 rfl rfl ?_
  refine sr_getI (k := 3) (pc' := 65) cls_X0 dX0_find_62 rfl s88_53 rfl (by decide) w_194 ?_
  refine sr_iconst (pc' := 66) dX0_find_65 rfl (by decide) ?_
  refine sr_iadd (pc' := 67) dX0_find_66 rfl ?_
  refine sr_putI (k := 3) (pc' := 70) cls_X0 dX0_find_67 rfl s88_53 rfl (by decide) w_194 rfl rfl (fun μ1 hμ1 => ?_)
  refine sr_aload_n (i := 0) (pc' := 71) dX0_find_70 rfl rfl rfl ?_
  refine sr_iload_n (i := 1) (pc' := 72) dX0_find_71 rfl rfl rfl ?_
  refine sr_callV1_I (pc' := 75) (fit_lastIn_sp x1 μ1) dX0_find_72 rfl mg_X0_lastIn mi_X0_lastIn (Or.inl ⟨0, _, TX0, 5, s88_53, rfl⟩) ⟨Nat.le_of_ble_eq_true rfl, Nat.le_of_ble_eq_true rfl⟩ w_192 (Nat.le_of_ble_eq_true rfl) (fun u2 hu2 hcu2 hzu2 => ?_)
  refine sr_istore_n (i := 3) (lv' := [some (vR 53), some (vI x1), some (vI x2), some (vI u2)]) (pc' := 76) dX0_find_75 rfl rfl (by decide) rfl ?_
  refine sr_iload_n (i := 3) (pc' := 77) dX0_find_76 rfl rfl rfl ?_
  refine sr_if_lt (pc' := 80) (tgt := 92) dX0_find_77 rfl rfl (fun c77 => ?_) (fun c77 => ?_)
  · refine sr_fgt (fgt_s (fgt_s (fgt_s (fgt_n fgt_nil)))) ?_
    exact hk92 x1 x2 μ1
  · refine sr_aload_n (i := 0) (pc' := 81) dX0_find_80 rfl rfl rfl ?_
    refine sr_dup (pc' := 82) dX0_find_81 rfl rfl ?_
    refine sr_getI (k := 4) (pc' := 85) cls_X0 dX0_find_82 rfl s88_53 rfl (by decide) w_195 ?_
    refine sr_iconst (pc' := 86) dX0_find_85 rfl (by decide) ?_
    refine sr_iload_n (i := 3) (pc' := 87) dX0_find_86 rfl rfl rfl ?_
    refine sr_ishl (pc' := 88) dX0_find_87 rfl ?_
    refine sr_ior (pc' := 89) dX0_find_88 rfl ?_
    refine sr_putI (k := 4) (pc' := 92) cls_X0 dX0_find_89 rfl s88_53 rfl (by decide) w_195 rfl rfl (fun μ3 hμ3 => ?_)
    refine sr_fgt (fgt_s (fgt_s (fgt_s (fgt_n fgt_nil)))) ?_
    exact hk92 x1 x2 μ3
def fit_find_92  (k26 : Int → Int → Mem → Option (Mem)) (x1 x2 : Int) (μ : Mem) : Option (Mem) := (ord_advance 54 μ).bind fun u1 => if u1.1 = 0 then (some u1.2) else (k26 x1 (wI (x2 + 1)) u1.2)
theorem fit_find_92_s {l : Launch} {G : Nv}   {k26 : Int → Int → Mem → Option (Mem)} (hk26 : ∀ (x1 x2 : Int) (μ : Mem) , SR l G S88 mX0_find (k26 x1 x2 μ) jM 26 [some (vR 53), some (vI x1), some (vI x2), none] [] μ) : ∀ (x1 x2 : Int) (μ : Mem), SR l G S88 mX0_find (fit_find_92 k26 x1 x2 μ) jM 92 [some (vR 53), some (vI x1), some (vI x2), none] [] μ := by
  intro x1 x2 μ
  unfold fit_find_92
  refine sr_aload_n (i := 0) (pc' := 93) dX0_find_92 rfl rfl rfl ?_
  refine sr_getR (k := 1) (b := 54) (pc' := 96) cls_X0 dX0_find_93 rfl s88_53 rfl (by decide) w_185 ?_
  refine sr_callVN0_IM (pc' := 99) (ord_advance_sp isOrder_54 μ) dX0_find_96 rfl mg_X1_advance mi_X1_advance (Or.inl ⟨1, _, TX1, 2, isOrder_54.1, rfl⟩) ⟨Nat.le_of_ble_eq_true rfl, Nat.le_of_ble_eq_true rfl⟩ w_196 (Nat.le_of_ble_eq_true rfl) (fun u1 hu1 hcu1 hzu1 => ?_)
  refine sr_if_ne (pc' := 102) (tgt := 103) dX0_find_99 rfl rfl (fun c99 => ?_) (fun c99 => ?_)
  · exact sr_ret dX0_find_102 rfl rfl
  · refine sr_iinc (lv' := [some (vR 53), some (vI x1), some (vI (wI (x2 + 1))), none]) (pc' := 106) dX0_find_103 rfl (by decide) rfl rfl ?_
    refine sr_goto (pc' := 26) dX0_find_106 rfl ?_
    exact hk26 x1 (wI (x2 + 1)) u1.2
def fit_find_26   : Nat → Int → Int → Mem → Option (Mem)
  | 0, _, _, _ => none
  | n + 1, x1, x2, μ => if 120 ≤ x2 then (some μ) else ((fit_isFitting μ).bind fun u1 => if u1 = 0 then (fit_find_92 (fit_find_26 n) x1 x2 μ) else (if (μ 53 3) = 0 then ((ww_copy 55 5 56 5 μ).bind fun μ2 => fit_find_60 (fit_find_92 (fit_find_26 n)) x1 x2 μ2) else (fit_find_60 (fit_find_92 (fit_find_26 n)) x1 x2 μ)))
theorem fit_find_26_s {l : Launch} {G : Nv}     : ∀ (n : Nat) (x1 x2 : Int) (μ : Mem), SR l G S88 mX0_find (fit_find_26 n x1 x2 μ) jM 26 [some (vR 53), some (vI x1), some (vI x2), none] [] μ := by
  intro n
  induction n with
  | zero => intro x1 x2 μ; exact sr_none
  | succ n ih =>
    intro x1 x2 μ
    rw [fit_find_26.eq_2]
    refine sr_iload_n (i := 2) (pc' := 27) dX0_find_26 rfl rfl rfl ?_
    refine sr_bipush (pc' := 29) dX0_find_27 rfl (by decide) (by decide) ?_
    refine sr_icmp_ge (pc' := 32) (tgt := 109) dX0_find_29 rfl rfl (fun c29 => ?_) (fun c29 => ?_)
    · exact sr_ret dX0_find_109 rfl rfl
    · refine sr_aload_n (i := 0) (pc' := 33) dX0_find_32 rfl rfl rfl ?_
      refine sr_callV0_I (pc' := 36) (fit_isFitting_sp μ) dX0_find_33 rfl mg_X0_isFitting mi_X0_isFitting (Or.inl ⟨0, _, TX0, 5, s88_53, rfl⟩) ⟨Nat.le_of_ble_eq_true rfl, Nat.le_of_ble_eq_true rfl⟩ w_197 (Nat.le_of_ble_eq_true rfl) (fun u1 hu1 hcu1 hzu1 => ?_)
      refine sr_if_eq (pc' := 39) (tgt := 92) dX0_find_36 rfl rfl (fun c36 => ?_) (fun c36 => ?_)
      · exact fit_find_92_s ih x1 x2 μ
      · refine sr_aload_n (i := 0) (pc' := 40) dX0_find_39 rfl rfl rfl ?_
        refine sr_getI (k := 3) (pc' := 43) cls_X0 dX0_find_40 rfl s88_53 rfl (by decide) w_194 ?_
        refine sr_if_ne (pc' := 46) (tgt := 60) dX0_find_43 rfl rfl (fun c43 => ?_) (fun c43 => ?_)
        · refine sr_aload_n (i := 0) (pc' := 47) dX0_find_46 rfl rfl rfl ?_
          refine sr_getR (k := 1) (b := 54) (pc' := 50) cls_X0 dX0_find_47 rfl s88_53 rfl (by decide) w_185 ?_
          refine sr_getRN (k := 0) (b := 55) (pc' := 53) cls_X1 dX0_find_50 rfl isOrder_54.1 rfl (by decide) w_186 ?_
          refine sr_aload_n (i := 0) (pc' := 54) dX0_find_53 rfl rfl rfl ?_
          refine sr_getR (k := 2) (b := 56) (pc' := 57) cls_X0 dX0_find_54 rfl s88_53 rfl (by decide) w_198 ?_
          refine sr_callSN2_M (pc' := 60) (ww_copy_sp isOrder_54.2 (by decide) s88_56 (by decide) μ) dX0_find_57 rfl mg_X8_copy ms_X8_copy ⟨Nat.le_of_ble_eq_true rfl, Nat.le_of_ble_eq_true rfl⟩ w_199 (Nat.le_of_ble_eq_true rfl) (fun μ2 hμ2 => ?_)
          exact fit_find_60_s (fit_find_92_s ih) x1 x2 μ2
        · exact fit_find_60_s (fit_find_92_s ih) x1 x2 μ
def fit_find   (x1 : Int) (μ : Mem) : Option (Mem) := bnd (mset μ 53 3 0) fun μ1 => bnd (mset μ1 53 4 0) fun μ2 => (ord_begin 54 (μ2 1 10) μ2).bind fun μ3 => fit_find_26 BIG x1 0 μ3
theorem fit_find_sp {l : Launch} {G : Nv}   (x1 : Int) (μ : Mem) : SP l G S88 mX0_find [vR 53, vI x1] μ (fit_find x1 μ) jM := by
  refine sp_go (lv := [some (vR 53), some (vI x1), none, none]) pn_X0 (Nat.le_of_ble_eq_true rfl) rfl ?_
  unfold fit_find
  refine sr_aload_n (i := 0) (pc' := 1) dX0_find_0 rfl rfl rfl ?_
  refine sr_iconst (pc' := 2) dX0_find_1 rfl (by decide) ?_
  refine sr_putI (k := 3) (pc' := 5) cls_X0 dX0_find_2 rfl s88_53 rfl (by decide) w_194 rfl rfl (fun μ1 hμ1 => ?_)
  refine sr_aload_n (i := 0) (pc' := 6) dX0_find_5 rfl rfl rfl ?_
  refine sr_iconst (pc' := 7) dX0_find_6 rfl (by decide) ?_
  refine sr_putI (k := 4) (pc' := 10) cls_X0 dX0_find_7 rfl s88_53 rfl (by decide) w_195 rfl rfl (fun μ2 hμ2 => ?_)
  refine sr_aload_n (i := 0) (pc' := 11) dX0_find_10 rfl rfl rfl ?_
  refine sr_getR (k := 1) (b := 54) (pc' := 14) cls_X0 dX0_find_11 rfl s88_53 rfl (by decide) w_185 ?_
  refine sr_aload_n (i := 0) (pc' := 15) dX0_find_14 rfl rfl rfl ?_
  refine sr_getR (k := 0) (b := 1) (pc' := 18) cls_X0 dX0_find_15 rfl s88_53 rfl (by decide) w_184 ?_
  refine sr_getI (k := 10) (pc' := 21) cls_X4 dX0_find_18 rfl isRoad_1.1 rfl (by decide) w_200 ?_
  refine sr_callVN1_M (pc' := 24) (ord_begin_sp isOrder_54 (μ2 1 10) μ2) dX0_find_21 rfl mg_X1_begin mi_X1_begin (Or.inl ⟨1, _, TX1, 2, isOrder_54.1, rfl⟩) ⟨Nat.le_of_ble_eq_true rfl, Nat.le_of_ble_eq_true rfl⟩ w_201 (Nat.le_of_ble_eq_true rfl) (fun μ3 hμ3 => ?_)
  refine sr_iconst (pc' := 25) dX0_find_24 rfl (by decide) ?_
  refine sr_istore_n (i := 2) (lv' := [some (vR 53), some (vI x1), some (vI 0), none]) (pc' := 26) dX0_find_25 rfl rfl (by decide) rfl ?_
  exact fit_find_26_s BIG x1 0 μ3
def ww_orders_22   (x1 : Int) (μ : Mem) : Option (Int × Mem) := (fit_find 0 μ).bind fun μ1 => if x1 = 0 then (some (μ1 53 3, μ1)) else (if (μ1 53 3) = 0 then (some ((-4), μ1)) else ((ww_at 56 5 μ1 (wI (x1 - 10))).bind fun u2 => some (u2, μ1)))
theorem ww_orders_22_s {l : Launch} {G : Nv}     : ∀ (x1 : Int) (μ : Mem), SR l G S88 mX8_orders (ww_orders_22 x1 μ) jIM 22 [some (vR 0), some (vI x1)] [] μ := by
  intro x1 μ
  unfold ww_orders_22
  refine sr_aload_n (i := 0) (pc' := 23) dX8_orders_22 rfl rfl rfl ?_
  refine sr_getR (k := 8) (b := 53) (pc' := 26) cls_X8 dX8_orders_23 rfl s88_0 rfl (by decide) w_202 ?_
  refine sr_iconst (pc' := 27) dX8_orders_26 rfl (by decide) ?_
  refine sr_callVN1_M (pc' := 30) (fit_find_sp 0 μ) dX8_orders_27 rfl mg_X0_find mi_X0_find (Or.inl ⟨0, _, TX0, 5, s88_53, rfl⟩) ⟨Nat.le_of_ble_eq_true rfl, Nat.le_of_ble_eq_true rfl⟩ w_203 (Nat.le_of_ble_eq_true rfl) (fun μ1 hμ1 => ?_)
  refine sr_iload_n (i := 1) (pc' := 31) dX8_orders_30 rfl rfl rfl ?_
  refine sr_if_ne (pc' := 34) (tgt := 42) dX8_orders_31 rfl rfl (fun c31 => ?_) (fun c31 => ?_)
  · refine sr_aload_n (i := 0) (pc' := 35) dX8_orders_34 rfl rfl rfl ?_
    refine sr_getR (k := 8) (b := 53) (pc' := 38) cls_X8 dX8_orders_35 rfl s88_0 rfl (by decide) w_202 ?_
    refine sr_getIN (k := 3) (pc' := 41) cls_X0 dX8_orders_38 rfl s88_53 rfl (by decide) w_204 ?_
    exact sr_iretI dX8_orders_41 rfl rfl
  · refine sr_aload_n (i := 0) (pc' := 43) dX8_orders_42 rfl rfl rfl ?_
    refine sr_getR (k := 8) (b := 53) (pc' := 46) cls_X8 dX8_orders_43 rfl s88_0 rfl (by decide) w_202 ?_
    refine sr_getIN (k := 3) (pc' := 49) cls_X0 dX8_orders_46 rfl s88_53 rfl (by decide) w_204 ?_
    refine sr_if_ne (pc' := 52) (tgt := 57) dX8_orders_49 rfl rfl (fun c49 => ?_) (fun c49 => ?_)
    · refine sr_bipush (pc' := 54) dX8_orders_52 rfl (by decide) (by decide) ?_
      refine sr_goto (pc' := 71) dX8_orders_54 rfl ?_
      exact sr_iretI dX8_orders_71 rfl rfl
    · refine sr_aload_n (i := 0) (pc' := 58) dX8_orders_57 rfl rfl rfl ?_
      refine sr_getR (k := 8) (b := 53) (pc' := 61) cls_X8 dX8_orders_58 rfl s88_0 rfl (by decide) w_202 ?_
      refine sr_getRN (k := 2) (b := 56) (pc' := 64) cls_X0 dX8_orders_61 rfl s88_53 rfl (by decide) w_205 ?_
      refine sr_iload_n (i := 1) (pc' := 65) dX8_orders_64 rfl rfl rfl ?_
      refine sr_bipush (pc' := 67) dX8_orders_65 rfl (by decide) (by decide) ?_
      refine sr_isub (pc' := 68) dX8_orders_67 rfl ?_
      refine sr_callS2_I (pc' := 71) (ww_at_sp s88_56 (by decide) (wI (x1 - 10)) μ1) dX8_orders_68 rfl mg_X8_at ms_X8_at ⟨Nat.le_of_ble_eq_true rfl, Nat.le_of_ble_eq_true rfl⟩ w_48 (Nat.le_of_ble_eq_true rfl) (fun u2 hu2 hcu2 hzu2 => ?_)
      exact sr_iretI dX8_orders_71 rfl rfl
def ww_orders   (x1 : Int) (μ : Mem) : Option (Int × Mem) := if x1 = 0 then (ww_orders_22 x1 μ) else ((ww_less μ x1 10).bind fun u1 => (roa_hasCart 1 μ u1).bind fun u2 => if u2 = 0 then (some ((-1), μ)) else (ww_orders_22 x1 μ))
theorem ww_orders_sp {l : Launch} {G : Nv}   (x1 : Int) (μ : Mem) : SP l G S88 mX8_orders [vR 0, vI x1] μ (ww_orders x1 μ) jIM := by
  refine sp_go (lv := [some (vR 0), some (vI x1)]) pn_X8 (Nat.le_of_ble_eq_true rfl) rfl ?_
  unfold ww_orders
  refine sr_iload_n (i := 1) (pc' := 1) dX8_orders_0 rfl rfl rfl ?_
  refine sr_if_eq (pc' := 4) (tgt := 22) dX8_orders_1 rfl rfl (fun c1 => ?_) (fun c1 => ?_)
  · exact ww_orders_22_s x1 μ
  · refine sr_aload_n (i := 0) (pc' := 5) dX8_orders_4 rfl rfl rfl ?_
    refine sr_getR (k := 0) (b := 1) (pc' := 8) cls_X8 dX8_orders_5 rfl s88_0 rfl (by decide) w_19 ?_
    refine sr_iload_n (i := 1) (pc' := 9) dX8_orders_8 rfl rfl rfl ?_
    refine sr_bipush (pc' := 11) dX8_orders_9 rfl (by decide) (by decide) ?_
    refine sr_callS2_I (pc' := 14) (ww_less_sp x1 10 μ) dX8_orders_11 rfl mg_X8_less ms_X8_less ⟨Nat.le_of_ble_eq_true rfl, Nat.le_of_ble_eq_true rfl⟩ w_183 (Nat.le_of_ble_eq_true rfl) (fun u1 hu1 hcu1 hzu1 => ?_)
    refine sr_callVN1_I (pc' := 17) (roa_hasCart_sp isRoad_1 u1 μ) dX8_orders_14 rfl mg_X4_hasCart mi_X4_hasCart (Or.inl ⟨4, _, TX4, 12, isRoad_1.1, rfl⟩) ⟨Nat.le_of_ble_eq_true rfl, Nat.le_of_ble_eq_true rfl⟩ w_42 (Nat.le_of_ble_eq_true rfl) (fun u2 hu2 hcu2 hzu2 => ?_)
    refine sr_if_ne (pc' := 20) (tgt := 22) dX8_orders_17 rfl rfl (fun c17 => ?_) (fun c17 => ?_)
    · refine sr_iconst (pc' := 21) dX8_orders_20 rfl (by decide) ?_
      exact sr_iretI dX8_orders_21 rfl rfl
    · exact ww_orders_22_s x1 μ
def ww_paid   (x1 x2 : Int) (μ : Mem) : Option (Int × Mem) := (roa_hasCart 1 μ x1).bind fun u1 => if u1 = 0 then (some ((-1), μ)) else ((ww_isBehind μ x2).bind fun u2 => if u2 = 0 then (some ((-1), μ)) else ((ww_runUpTo x2 μ).bind fun μ3 => (ww_at 39 5 μ3 x1).bind fun u4 => some (u4, μ3)))
theorem ww_paid_sp {l : Launch} {G : Nv}   (x1 x2 : Int) (μ : Mem) : SP l G S88 mX8_paid [vR 0, vI x1, vI x2] μ (ww_paid x1 x2 μ) jIM := by
  refine sp_go (lv := [some (vR 0), some (vI x1), some (vI x2)]) pn_X8 (Nat.le_of_ble_eq_true rfl) rfl ?_
  unfold ww_paid
  refine sr_aload_n (i := 0) (pc' := 1) dX8_paid_0 rfl rfl rfl ?_
  refine sr_getR (k := 0) (b := 1) (pc' := 4) cls_X8 dX8_paid_1 rfl s88_0 rfl (by decide) w_19 ?_
  refine sr_iload_n (i := 1) (pc' := 5) dX8_paid_4 rfl rfl rfl ?_
  refine sr_callVN1_I (pc' := 8) (roa_hasCart_sp isRoad_1 x1 μ) dX8_paid_5 rfl mg_X4_hasCart mi_X4_hasCart (Or.inl ⟨4, _, TX4, 12, isRoad_1.1, rfl⟩) ⟨Nat.le_of_ble_eq_true rfl, Nat.le_of_ble_eq_true rfl⟩ w_42 (Nat.le_of_ble_eq_true rfl) (fun u1 hu1 hcu1 hzu1 => ?_)
  refine sr_if_eq (pc' := 11) (tgt := 18) dX8_paid_8 rfl rfl (fun c8 => ?_) (fun c8 => ?_)
  · refine sr_iconst (pc' := 19) dX8_paid_18 rfl (by decide) ?_
    exact sr_iretI dX8_paid_19 rfl rfl
  · refine sr_iload_n (i := 2) (pc' := 12) dX8_paid_11 rfl rfl rfl ?_
    refine sr_callS1_I (pc' := 15) (ww_isBehind_sp x2 μ) dX8_paid_12 rfl mg_X8_isBehind ms_X8_isBehind ⟨Nat.le_of_ble_eq_true rfl, Nat.le_of_ble_eq_true rfl⟩ w_111 (Nat.le_of_ble_eq_true rfl) (fun u2 hu2 hcu2 hzu2 => ?_)
    refine sr_if_ne (pc' := 18) (tgt := 20) dX8_paid_15 rfl rfl (fun c15 => ?_) (fun c15 => ?_)
    · refine sr_iconst (pc' := 19) dX8_paid_18 rfl (by decide) ?_
      exact sr_iretI dX8_paid_19 rfl rfl
    · refine sr_aload_n (i := 0) (pc' := 21) dX8_paid_20 rfl rfl rfl ?_
      refine sr_iload_n (i := 2) (pc' := 22) dX8_paid_21 rfl rfl rfl ?_
      refine sr_callV1_M (pc' := 25) (ww_runUpTo_sp x2 μ) dX8_paid_22 rfl mg_X8_runUpTo mi_X8_runUpTo (Or.inl ⟨8, _, TX8, 11, s88_0, rfl⟩) ⟨Nat.le_of_ble_eq_true rfl, Nat.le_of_ble_eq_true rfl⟩ w_112 (Nat.le_of_ble_eq_true rfl) (fun μ3 hμ3 => ?_)
      refine sr_aload_n (i := 0) (pc' := 26) dX8_paid_25 rfl rfl rfl ?_
      refine sr_getR (k := 4) (b := 35) (pc' := 29) cls_X8 dX8_paid_26 rfl s88_0 rfl (by decide) w_106 ?_
      refine sr_getRN (k := 3) (b := 39) (pc' := 32) cls_X5 dX8_paid_29 rfl s88_35 rfl (by decide) w_206 ?_
      refine sr_iload_n (i := 1) (pc' := 33) dX8_paid_32 rfl rfl rfl ?_
      refine sr_callS2_I (pc' := 36) (ww_at_sp s88_39 (by decide) x1 μ3) dX8_paid_33 rfl mg_X8_at ms_X8_at ⟨Nat.le_of_ble_eq_true rfl, Nat.le_of_ble_eq_true rfl⟩ w_48 (Nat.le_of_ble_eq_true rfl) (fun u4 hu4 hcu4 hzu4 => ?_)
      exact sr_iretI dX8_paid_36 rfl rfl
def ww_price   (x1 x2 : Int) (μ : Mem) : Option (Int × Mem) := (ww_isPeoples μ x1).bind fun u1 => if u1 = 0 then (some ((-1), μ)) else ((ww_isShare μ x2).bind fun u2 => if u2 = 0 then (some ((-1), μ)) else ((ww_swap 7 8 x1 x2 μ).bind fun u3 => some (u3.1, u3.2)))
theorem ww_price_sp {l : Launch} {G : Nv}   (x1 x2 : Int) (μ : Mem) : SP l G S88 mX8_price [vR 0, vI x1, vI x2] μ (ww_price x1 x2 μ) jIM := by
  refine sp_go (lv := [some (vR 0), some (vI x1), some (vI x2)]) pn_X8 (Nat.le_of_ble_eq_true rfl) rfl ?_
  unfold ww_price
  refine sr_iload_n (i := 1) (pc' := 1) dX8_price_0 rfl rfl rfl ?_
  refine sr_callS1_I (pc' := 4) (ww_isPeoples_sp x1 μ) dX8_price_1 rfl mg_X8_isPeoples ms_X8_isPeoples ⟨Nat.le_of_ble_eq_true rfl, Nat.le_of_ble_eq_true rfl⟩ w_46 (Nat.le_of_ble_eq_true rfl) (fun u1 hu1 hcu1 hzu1 => ?_)
  refine sr_if_eq (pc' := 7) (tgt := 29) dX8_price_4 rfl rfl (fun c4 => ?_) (fun c4 => ?_)
  · refine sr_iconst (pc' := 30) dX8_price_29 rfl (by decide) ?_
    exact sr_iretI dX8_price_30 rfl rfl
  · refine sr_iload_n (i := 2) (pc' := 8) dX8_price_7 rfl rfl rfl ?_
    refine sr_callS1_I (pc' := 11) (ww_isShare_sp x2 μ) dX8_price_8 rfl mg_X8_isShare ms_X8_isShare ⟨Nat.le_of_ble_eq_true rfl, Nat.le_of_ble_eq_true rfl⟩ w_126 (Nat.le_of_ble_eq_true rfl) (fun u2 hu2 hcu2 hzu2 => ?_)
    refine sr_if_eq (pc' := 14) (tgt := 29) dX8_price_11 rfl rfl (fun c11 => ?_) (fun c11 => ?_)
    · refine sr_iconst (pc' := 30) dX8_price_29 rfl (by decide) ?_
      exact sr_iretI dX8_price_30 rfl rfl
    · refine sr_aload_n (i := 0) (pc' := 15) dX8_price_14 rfl rfl rfl ?_
      refine sr_getR (k := 0) (b := 1) (pc' := 18) cls_X8 dX8_price_15 rfl s88_0 rfl (by decide) w_19 ?_
      refine sr_getR (k := 5) (b := 7) (pc' := 21) cls_X4 dX8_price_18 rfl isRoad_1.1 rfl (by decide) w_47 ?_
      refine sr_iload_n (i := 1) (pc' := 22) dX8_price_21 rfl rfl rfl ?_
      refine sr_iload_n (i := 2) (pc' := 23) dX8_price_22 rfl rfl rfl ?_
      refine sr_callS3_IM (pc' := 26) (ww_swap_sp isRoad_1.2.2.2.2.2.2.1 (by decide) x1 x2 μ) dX8_price_23 rfl mg_X8_swap ms_X8_swap ⟨Nat.le_of_ble_eq_true rfl, Nat.le_of_ble_eq_true rfl⟩ w_118 (Nat.le_of_ble_eq_true rfl) (fun u3 hu3 hcu3 hzu3 => ?_)
      refine sr_goto (pc' := 30) dX8_price_26 rfl ?_
      exact sr_iretI dX8_price_30 rfl rfl
def she_isLane (μ : Mem)  (x0 : Int) : Option (Int) := if x0 < 0 then (some 0) else (if 2 < x0 then (some 0) else (some 1))
theorem she_isLane_sp {l : Launch} {G : Nv} {Sh : Shp}   (x0 : Int) (μ : Mem) : SP l G Sh mX6_isLane [vI x0] μ (she_isLane μ x0) (jI μ) := by
  refine sp_go (lv := [some (vI x0)]) pn_X6 (Nat.le_of_ble_eq_true rfl) rfl ?_
  unfold she_isLane
  refine sr_iload_n (i := 0) (pc' := 1) dX6_isLane_0 rfl rfl rfl ?_
  refine sr_if_lt (pc' := 4) (tgt := 13) dX6_isLane_1 rfl rfl (fun c1 => ?_) (fun c1 => ?_)
  · refine sr_iconst (pc' := 14) dX6_isLane_13 rfl (by decide) ?_
    exact sr_iretZ dX6_isLane_14 rfl (Or.inl rfl) rfl
  · refine sr_iload_n (i := 0) (pc' := 5) dX6_isLane_4 rfl rfl rfl ?_
    refine sr_iconst (pc' := 6) dX6_isLane_5 rfl (by decide) ?_
    refine sr_icmp_gt (pc' := 9) (tgt := 13) dX6_isLane_6 rfl rfl (fun c6 => ?_) (fun c6 => ?_)
    · refine sr_iconst (pc' := 14) dX6_isLane_13 rfl (by decide) ?_
      exact sr_iretZ dX6_isLane_14 rfl (Or.inl rfl) rfl
    · refine sr_iconst (pc' := 10) dX6_isLane_9 rfl (by decide) ?_
      refine sr_goto (pc' := 14) dX6_isLane_10 rfl ?_
      exact sr_iretZ dX6_isLane_14 rfl (Or.inr rfl) rfl
def she_wholePairs (μ : Mem)  (x1 x2 x3 x4 : Int) : Option (Int) := (she_cellsOf μ x1).bind fun u1 => if u1 < 0 then (some 0) else ((ww_at 59 4 μ x1).bind fun u2 => if u2 = x2 then (if x3 < 0 then (some 0) else ((she_cellsOf μ x1).bind fun u3 => if x3 < u3 then ((she_cellsOf μ x1).bind fun u4 => some (iMin x4 (iDiv (wI (u4 - x3)) 2))) else (some 0))) else (some 0))
theorem she_wholePairs_sp {l : Launch} {G : Nv}   (x1 x2 x3 x4 : Int) (μ : Mem) : SP l G S88 mX6_wholePairs [vR 57, vI x1, vI x2, vI x3, vI x4] μ (she_wholePairs μ x1 x2 x3 x4) (jI μ) := by
  refine sp_go (lv := [some (vR 57), some (vI x1), some (vI x2), some (vI x3), some (vI x4)]) pn_X6 (Nat.le_of_ble_eq_true rfl) rfl ?_
  unfold she_wholePairs
  refine sr_aload_n (i := 0) (pc' := 1) dX6_wholePairs_0 rfl rfl rfl ?_
  refine sr_iload_n (i := 1) (pc' := 2) dX6_wholePairs_1 rfl rfl rfl ?_
  refine sr_callV1_I (pc' := 5) (she_cellsOf_sp x1 μ) dX6_wholePairs_2 rfl mg_X6_cellsOf mi_X6_cellsOf (Or.inl ⟨6, _, TX6, 4, s88_57, rfl⟩) ⟨Nat.le_of_ble_eq_true rfl, Nat.le_of_ble_eq_true rfl⟩ w_138 (Nat.le_of_ble_eq_true rfl) (fun u1 hu1 hcu1 hzu1 => ?_)
  refine sr_if_lt (pc' := 8) (tgt := 33) dX6_wholePairs_5 rfl rfl (fun c5 => ?_) (fun c5 => ?_)
  · refine sr_iconst (pc' := 34) dX6_wholePairs_33 rfl (by decide) ?_
    exact sr_iretI dX6_wholePairs_34 rfl rfl
  · refine sr_aload_n (i := 0) (pc' := 9) dX6_wholePairs_8 rfl rfl rfl ?_
    refine sr_getR (k := 1) (b := 59) (pc' := 12) cls_X6 dX6_wholePairs_9 rfl s88_57 rfl (by decide) w_141 ?_
    refine sr_iload_n (i := 1) (pc' := 13) dX6_wholePairs_12 rfl rfl rfl ?_
    refine sr_callSN2_I (pc' := 16) (ww_at_sp s88_59 (by decide) x1 μ) dX6_wholePairs_13 rfl mg_X8_at ms_X8_at ⟨Nat.le_of_ble_eq_true rfl, Nat.le_of_ble_eq_true rfl⟩ w_142 (Nat.le_of_ble_eq_true rfl) (fun u2 hu2 hcu2 hzu2 => ?_)
    refine sr_iload_n (i := 2) (pc' := 17) dX6_wholePairs_16 rfl rfl rfl ?_
    refine sr_icmp_ne (pc' := 20) (tgt := 33) dX6_wholePairs_17 rfl rfl (fun c17 => ?_) (fun c17 => ?_)
    · refine sr_iload_n (i := 3) (pc' := 21) dX6_wholePairs_20 rfl rfl rfl ?_
      refine sr_if_lt (pc' := 24) (tgt := 33) dX6_wholePairs_21 rfl rfl (fun c21 => ?_) (fun c21 => ?_)
      · refine sr_iconst (pc' := 34) dX6_wholePairs_33 rfl (by decide) ?_
        exact sr_iretI dX6_wholePairs_34 rfl rfl
      · refine sr_iload_n (i := 3) (pc' := 25) dX6_wholePairs_24 rfl rfl rfl ?_
        refine sr_aload_n (i := 0) (pc' := 26) dX6_wholePairs_25 rfl rfl rfl ?_
        refine sr_iload_n (i := 1) (pc' := 27) dX6_wholePairs_26 rfl rfl rfl ?_
        refine sr_callV1_I (pc' := 30) (she_cellsOf_sp x1 μ) dX6_wholePairs_27 rfl mg_X6_cellsOf mi_X6_cellsOf (Or.inl ⟨6, _, TX6, 4, s88_57, rfl⟩) ⟨Nat.le_of_ble_eq_true rfl, Nat.le_of_ble_eq_true rfl⟩ w_138 (Nat.le_of_ble_eq_true rfl) (fun u3 hu3 hcu3 hzu3 => ?_)
        refine sr_icmp_lt (pc' := 33) (tgt := 35) dX6_wholePairs_30 rfl rfl (fun c30 => ?_) (fun c30 => ?_)
        · refine sr_iload (pc' := 37) dX6_wholePairs_35 rfl rfl ?_
          refine sr_aload_n (i := 0) (pc' := 38) dX6_wholePairs_37 rfl rfl rfl ?_
          refine sr_iload_n (i := 1) (pc' := 39) dX6_wholePairs_38 rfl rfl rfl ?_
          refine sr_callV1_I (pc' := 42) (she_cellsOf_sp x1 μ) dX6_wholePairs_39 rfl mg_X6_cellsOf mi_X6_cellsOf (Or.inl ⟨6, _, TX6, 4, s88_57, rfl⟩) ⟨Nat.le_of_ble_eq_true rfl, Nat.le_of_ble_eq_true rfl⟩ w_138 (Nat.le_of_ble_eq_true rfl) (fun u4 hu4 hcu4 hzu4 => ?_)
          refine sr_iload_n (i := 3) (pc' := 43) dX6_wholePairs_42 rfl rfl rfl ?_
          refine sr_isub (pc' := 44) dX6_wholePairs_43 rfl ?_
          refine sr_iconst (pc' := 45) dX6_wholePairs_44 rfl (by decide) ?_
          refine sr_idiv (pc' := 46) dX6_wholePairs_45 rfl (by decide) ?_
          refine sr_mmin (pc' := 49) dX6_wholePairs_46 rfl w_207 (Nat.le_of_ble_eq_true rfl) (Nat.le_of_ble_eq_true rfl) (Nat.le_of_ble_eq_true rfl) ?_
          exact sr_iretI dX6_wholePairs_49 rfl rfl
        · refine sr_iconst (pc' := 34) dX6_wholePairs_33 rfl (by decide) ?_
          exact sr_iretI dX6_wholePairs_34 rfl rfl
    · refine sr_iconst (pc' := 34) dX6_wholePairs_33 rfl (by decide) ?_
      exact sr_iretI dX6_wholePairs_34 rfl rfl
def she_cell (μ : Mem)  (x1 x2 : Int) : Option (Int) := (ww_at 58 160 μ (wI ((wI (x1 * 40)) + x2))).bind fun u1 => some u1
theorem she_cell_sp {l : Launch} {G : Nv}   (x1 x2 : Int) (μ : Mem) : SP l G S88 mX6_cell [vR 57, vI x1, vI x2] μ (she_cell μ x1 x2) (jI μ) := by
  refine sp_go (lv := [some (vR 57), some (vI x1), some (vI x2)]) pn_X6 (Nat.le_of_ble_eq_true rfl) rfl ?_
  unfold she_cell
  refine sr_aload_n (i := 0) (pc' := 1) dX6_cell_0 rfl rfl rfl ?_
  refine sr_getR (k := 0) (b := 58) (pc' := 4) cls_X6 dX6_cell_1 rfl s88_57 rfl (by decide) w_139 ?_
  refine sr_iload_n (i := 1) (pc' := 5) dX6_cell_4 rfl rfl rfl ?_
  refine sr_bipush (pc' := 7) dX6_cell_5 rfl (by decide) (by decide) ?_
  refine sr_imul (pc' := 8) dX6_cell_7 rfl ?_
  refine sr_iload_n (i := 2) (pc' := 9) dX6_cell_8 rfl rfl rfl ?_
  refine sr_iadd (pc' := 10) dX6_cell_9 rfl ?_
  refine sr_callSN2_I (pc' := 13) (ww_at_sp s88_58 (by decide) (wI ((wI (x1 * 40)) + x2)) μ) dX6_cell_10 rfl mg_X8_at ms_X8_at ⟨Nat.le_of_ble_eq_true rfl, Nat.le_of_ble_eq_true rfl⟩ w_142 (Nat.le_of_ble_eq_true rfl) (fun u1 hu1 hcu1 hzu1 => ?_)
  exact sr_iretI dX6_cell_13 rfl rfl
def roa_refusesTrack (r : Nat) (μ : Mem)  (x1 x2 x3 : Int) : Option (Int) := (roa_hasYard r μ x1).bind fun u1 => if u1 = 0 then (some (-1)) else ((ww_isWidth μ x2).bind fun u2 => if u2 = 0 then (some (-1)) else (if x3 < 8 then (some 0) else (some (-3))))
theorem roa_refusesTrack_sp {l : Launch} {G : Nv} {Sh : Shp} {r : Nat} (hr : IsRoad Sh r) (x1 x2 x3 : Int) (μ : Mem) : SP l G Sh mX4_refusesTrack [vR r, vI x1, vI x2, vI x3] μ (roa_refusesTrack r μ x1 x2 x3) (jI μ) := by
  refine sp_go (lv := [some (vR r), some (vI x1), some (vI x2), some (vI x3)]) pn_X4 (Nat.le_of_ble_eq_true rfl) rfl ?_
  unfold roa_refusesTrack
  refine sr_aload_n (i := 0) (pc' := 1) dX4_refusesTrack_0 rfl rfl rfl ?_
  refine sr_iload_n (i := 1) (pc' := 2) dX4_refusesTrack_1 rfl rfl rfl ?_
  refine sr_callV1_I (pc' := 5) (roa_hasYard_sp hr x1 μ) dX4_refusesTrack_2 rfl mg_X4_hasYard mi_X4_hasYard (Or.inl ⟨4, _, TX4, 12, hr.1, rfl⟩) ⟨Nat.le_of_ble_eq_true rfl, Nat.le_of_ble_eq_true rfl⟩ w_29 (Nat.le_of_ble_eq_true rfl) (fun u1 hu1 hcu1 hzu1 => ?_)
  refine sr_if_eq (pc' := 8) (tgt := 15) dX4_refusesTrack_5 rfl rfl (fun c5 => ?_) (fun c5 => ?_)
  · refine sr_iconst (pc' := 16) dX4_refusesTrack_15 rfl (by decide) ?_
    exact sr_iretI dX4_refusesTrack_16 rfl rfl
  · refine sr_iload_n (i := 2) (pc' := 9) dX4_refusesTrack_8 rfl rfl rfl ?_
    refine sr_callSN1_I (pc' := 12) (ww_isWidth_sp x2 μ) dX4_refusesTrack_9 rfl mg_X8_isWidth ms_X8_isWidth ⟨Nat.le_of_ble_eq_true rfl, Nat.le_of_ble_eq_true rfl⟩ w_30 (Nat.le_of_ble_eq_true rfl) (fun u2 hu2 hcu2 hzu2 => ?_)
    refine sr_if_ne (pc' := 15) (tgt := 17) dX4_refusesTrack_12 rfl rfl (fun c12 => ?_) (fun c12 => ?_)
    · refine sr_iconst (pc' := 16) dX4_refusesTrack_15 rfl (by decide) ?_
      exact sr_iretI dX4_refusesTrack_16 rfl rfl
    · refine sr_iload_n (i := 3) (pc' := 18) dX4_refusesTrack_17 rfl rfl rfl ?_
      refine sr_bipush (pc' := 20) dX4_refusesTrack_18 rfl (by decide) (by decide) ?_
      refine sr_icmp_lt (pc' := 23) (tgt := 28) dX4_refusesTrack_20 rfl rfl (fun c20 => ?_) (fun c20 => ?_)
      · refine sr_iconst (pc' := 29) dX4_refusesTrack_28 rfl (by decide) ?_
        exact sr_iretI dX4_refusesTrack_29 rfl rfl
      · refine sr_bipush (pc' := 25) dX4_refusesTrack_23 rfl (by decide) (by decide) ?_
        refine sr_goto (pc' := 29) dX4_refusesTrack_25 rfl ?_
        exact sr_iretI dX4_refusesTrack_29 rfl rfl
def she_faultOfPairs (μ : Mem)  (x1 x2 x3 x4 : Int) : Option (Int) := (she_cellsOf μ x1).bind fun u1 => if 0 ≤ u1 then ((ww_at 59 4 μ x1).bind fun u2 => if u2 = x2 then (if x4 ≤ x3 then (some 0) else (some 2)) else (some 3)) else (some 1)
theorem she_faultOfPairs_sp {l : Launch} {G : Nv}   (x1 x2 x3 x4 : Int) (μ : Mem) : SP l G S88 mX6_faultOfPairs [vR 57, vI x1, vI x2, vI x3, vI x4] μ (she_faultOfPairs μ x1 x2 x3 x4) (jI μ) := by
  refine sp_go (lv := [some (vR 57), some (vI x1), some (vI x2), some (vI x3), some (vI x4)]) pn_X6 (Nat.le_of_ble_eq_true rfl) rfl ?_
  unfold she_faultOfPairs
  refine sr_aload_n (i := 0) (pc' := 1) dX6_faultOfPairs_0 rfl rfl rfl ?_
  refine sr_iload_n (i := 1) (pc' := 2) dX6_faultOfPairs_1 rfl rfl rfl ?_
  refine sr_callV1_I (pc' := 5) (she_cellsOf_sp x1 μ) dX6_faultOfPairs_2 rfl mg_X6_cellsOf mi_X6_cellsOf (Or.inl ⟨6, _, TX6, 4, s88_57, rfl⟩) ⟨Nat.le_of_ble_eq_true rfl, Nat.le_of_ble_eq_true rfl⟩ w_138 (Nat.le_of_ble_eq_true rfl) (fun u1 hu1 hcu1 hzu1 => ?_)
  refine sr_if_ge (pc' := 8) (tgt := 10) dX6_faultOfPairs_5 rfl rfl (fun c5 => ?_) (fun c5 => ?_)
  · refine sr_aload_n (i := 0) (pc' := 11) dX6_faultOfPairs_10 rfl rfl rfl ?_
    refine sr_getR (k := 1) (b := 59) (pc' := 14) cls_X6 dX6_faultOfPairs_11 rfl s88_57 rfl (by decide) w_141 ?_
    refine sr_iload_n (i := 1) (pc' := 15) dX6_faultOfPairs_14 rfl rfl rfl ?_
    refine sr_callSN2_I (pc' := 18) (ww_at_sp s88_59 (by decide) x1 μ) dX6_faultOfPairs_15 rfl mg_X8_at ms_X8_at ⟨Nat.le_of_ble_eq_true rfl, Nat.le_of_ble_eq_true rfl⟩ w_142 (Nat.le_of_ble_eq_true rfl) (fun u2 hu2 hcu2 hzu2 => ?_)
    refine sr_iload_n (i := 2) (pc' := 19) dX6_faultOfPairs_18 rfl rfl rfl ?_
    refine sr_icmp_eq (pc' := 22) (tgt := 24) dX6_faultOfPairs_19 rfl rfl (fun c19 => ?_) (fun c19 => ?_)
    · refine sr_iload_n (i := 3) (pc' := 25) dX6_faultOfPairs_24 rfl rfl rfl ?_
      refine sr_iload (pc' := 27) dX6_faultOfPairs_25 rfl rfl ?_
      refine sr_icmp_ge (pc' := 30) (tgt := 34) dX6_faultOfPairs_27 rfl rfl (fun c27 => ?_) (fun c27 => ?_)
      · refine sr_iconst (pc' := 35) dX6_faultOfPairs_34 rfl (by decide) ?_
        exact sr_iretI dX6_faultOfPairs_35 rfl rfl
      · refine sr_iconst (pc' := 31) dX6_faultOfPairs_30 rfl (by decide) ?_
        refine sr_goto (pc' := 35) dX6_faultOfPairs_31 rfl ?_
        exact sr_iretI dX6_faultOfPairs_35 rfl rfl
    · refine sr_iconst (pc' := 23) dX6_faultOfPairs_22 rfl (by decide) ?_
      exact sr_iretI dX6_faultOfPairs_23 rfl rfl
  · refine sr_iconst (pc' := 9) dX6_faultOfPairs_8 rfl (by decide) ?_
    exact sr_iretI dX6_faultOfPairs_9 rfl rfl
def roa_addTrack (r : Nat)  (x1 x2 : Int) (μ : Mem) : Option (Int × Mem) := (ww_rut μ x1 x2).bind fun u1 => (ww_put (r + 7) 8 (μ r 11) u1 μ).bind fun μ2 => bnd (mset μ2 r 11 (wI ((μ2 r 11) + 1))) fun μ3 => some (μ3 r 11, μ3)
theorem roa_addTrack_sp {l : Launch} {G : Nv} {Sh : Shp} {r : Nat} (hr : IsRoad Sh r) (x1 x2 : Int) (μ : Mem) : SP l G Sh mX4_addTrack [vR r, vI x1, vI x2] μ (roa_addTrack r x1 x2 μ) jIM := by
  refine sp_go (lv := [some (vR r), some (vI x1), some (vI x2)]) pn_X4 (Nat.le_of_ble_eq_true rfl) rfl ?_
  unfold roa_addTrack
  refine sr_aload_n (i := 0) (pc' := 1) dX4_addTrack_0 rfl rfl rfl ?_
  refine sr_getR (k := 6) (b := (r + 7)) (pc' := 4) cls_X4 dX4_addTrack_1 rfl hr.1 rfl (by decide) w_9 ?_
  refine sr_aload_n (i := 0) (pc' := 5) dX4_addTrack_4 rfl rfl rfl ?_
  refine sr_getI (k := 11) (pc' := 8) cls_X4 dX4_addTrack_5 rfl hr.1 rfl (by decide) w_14 ?_
  refine sr_iload_n (i := 1) (pc' := 9) dX4_addTrack_8 rfl rfl rfl ?_
  refine sr_iload_n (i := 2) (pc' := 10) dX4_addTrack_9 rfl rfl rfl ?_
  refine sr_callSN2_I (pc' := 13) (ww_rut_sp x1 x2 μ) dX4_addTrack_10 rfl mg_X8_rut ms_X8_rut ⟨Nat.le_of_ble_eq_true rfl, Nat.le_of_ble_eq_true rfl⟩ w_88 (Nat.le_of_ble_eq_true rfl) (fun u1 hu1 hcu1 hzu1 => ?_)
  refine sr_callSN3_M (pc' := 16) (ww_put_sp hr.2.2.2.2.2.2.2 (by decide) (μ r 11) u1 μ) dX4_addTrack_13 rfl mg_X8_put ms_X8_put ⟨Nat.le_of_ble_eq_true rfl, Nat.le_of_ble_eq_true rfl⟩ w_208 (Nat.le_of_ble_eq_true rfl) (fun μ2 hμ2 => ?_)
  refine sr_aload_n (i := 0) (pc' := 17) dX4_addTrack_16 rfl rfl rfl ?_
  refine sr_dup (pc' := 18) dX4_addTrack_17 rfl rfl ?_
  refine sr_getI (k := 11) (pc' := 21) cls_X4 dX4_addTrack_18 rfl hr.1 rfl (by decide) w_14 ?_
  refine sr_iconst (pc' := 22) dX4_addTrack_21 rfl (by decide) ?_
  refine sr_iadd (pc' := 23) dX4_addTrack_22 rfl ?_
  refine sr_putI (k := 11) (pc' := 26) cls_X4 dX4_addTrack_23 rfl hr.1 rfl (by decide) w_14 rfl rfl (fun μ3 hμ3 => ?_)
  refine sr_aload_n (i := 0) (pc' := 27) dX4_addTrack_26 rfl rfl rfl ?_
  refine sr_getI (k := 11) (pc' := 30) cls_X4 dX4_addTrack_27 rfl hr.1 rfl (by decide) w_14 ?_
  exact sr_iretI dX4_addTrack_30 rfl rfl
def ww_read_163   : Nat → Int → Int → Int → Int → Mem → Option (Int × Mem)
  | 0, _, _, _, _, _ => none
  | n + 1, x1, x3, x5, x6, μ => if x5 ≤ x6 then (some (x5, μ)) else ((she_cell μ x1 (wI (x3 + (wI (2 * x6))))).bind fun u1 => (she_cell μ x1 (wI ((wI (x3 + (wI (2 * x6)))) + 1))).bind fun u2 => (roa_addTrack 1 u1 u2 μ).bind fun u3 => ww_read_163 n x1 x3 x5 (wI (x6 + 1)) u3.2)
theorem ww_read_163_s {l : Launch} {G : Nv}     : ∀ (n : Nat) (x1 x3 x5 x6 : Int) (μ : Mem), SR l G S88 mX8_read (ww_read_163 n x1 x3 x5 x6 μ) jIM 163 [some (vR 0), some (vI x1), none, some (vI x3), none, some (vI x5), some (vI x6), none, none] [] μ := by
  intro n
  induction n with
  | zero => intro x1 x3 x5 x6 μ; exact sr_none
  | succ n ih =>
    intro x1 x3 x5 x6 μ
    rw [ww_read_163.eq_2]
    refine sr_iload (pc' := 165) dX8_read_163 rfl rfl ?_
    refine sr_iload (pc' := 167) dX8_read_165 rfl rfl ?_
    refine sr_icmp_ge (pc' := 170) (tgt := 214) dX8_read_167 rfl rfl (fun c167 => ?_) (fun c167 => ?_)
    · refine sr_iload (pc' := 216) dX8_read_214 rfl rfl ?_
      exact sr_iretI dX8_read_216 rfl rfl
    · refine sr_aload_n (i := 0) (pc' := 171) dX8_read_170 rfl rfl rfl ?_
      refine sr_getR (k := 0) (b := 1) (pc' := 174) cls_X8 dX8_read_171 rfl s88_0 rfl (by decide) w_19 ?_
      refine sr_aload_n (i := 0) (pc' := 175) dX8_read_174 rfl rfl rfl ?_
      refine sr_getR (k := 9) (b := 57) (pc' := 178) cls_X8 dX8_read_175 rfl s88_0 rfl (by decide) w_58 ?_
      refine sr_iload_n (i := 1) (pc' := 179) dX8_read_178 rfl rfl rfl ?_
      refine sr_iload_n (i := 3) (pc' := 180) dX8_read_179 rfl rfl rfl ?_
      refine sr_iconst (pc' := 181) dX8_read_180 rfl (by decide) ?_
      refine sr_iload (pc' := 183) dX8_read_181 rfl rfl ?_
      refine sr_imul (pc' := 184) dX8_read_183 rfl ?_
      refine sr_iadd (pc' := 185) dX8_read_184 rfl ?_
      refine sr_callVN2_I (pc' := 188) (she_cell_sp x1 (wI (x3 + (wI (2 * x6)))) μ) dX8_read_185 rfl mg_X6_cell mi_X6_cell (Or.inl ⟨6, _, TX6, 4, s88_57, rfl⟩) ⟨Nat.le_of_ble_eq_true rfl, Nat.le_of_ble_eq_true rfl⟩ w_209 (Nat.le_of_ble_eq_true rfl) (fun u1 hu1 hcu1 hzu1 => ?_)
      refine sr_aload_n (i := 0) (pc' := 189) dX8_read_188 rfl rfl rfl ?_
      refine sr_getR (k := 9) (b := 57) (pc' := 192) cls_X8 dX8_read_189 rfl s88_0 rfl (by decide) w_58 ?_
      refine sr_iload_n (i := 1) (pc' := 193) dX8_read_192 rfl rfl rfl ?_
      refine sr_iload_n (i := 3) (pc' := 194) dX8_read_193 rfl rfl rfl ?_
      refine sr_iconst (pc' := 195) dX8_read_194 rfl (by decide) ?_
      refine sr_iload (pc' := 197) dX8_read_195 rfl rfl ?_
      refine sr_imul (pc' := 198) dX8_read_197 rfl ?_
      refine sr_iadd (pc' := 199) dX8_read_198 rfl ?_
      refine sr_iconst (pc' := 200) dX8_read_199 rfl (by decide) ?_
      refine sr_iadd (pc' := 201) dX8_read_200 rfl ?_
      refine sr_callVN2_I (pc' := 204) (she_cell_sp x1 (wI ((wI (x3 + (wI (2 * x6)))) + 1)) μ) dX8_read_201 rfl mg_X6_cell mi_X6_cell (Or.inl ⟨6, _, TX6, 4, s88_57, rfl⟩) ⟨Nat.le_of_ble_eq_true rfl, Nat.le_of_ble_eq_true rfl⟩ w_209 (Nat.le_of_ble_eq_true rfl) (fun u2 hu2 hcu2 hzu2 => ?_)
      refine sr_callVN2_IM (pc' := 207) (roa_addTrack_sp isRoad_1 u1 u2 μ) dX8_read_204 rfl mg_X4_addTrack mi_X4_addTrack (Or.inl ⟨4, _, TX4, 12, isRoad_1.1, rfl⟩) ⟨Nat.le_of_ble_eq_true rfl, Nat.le_of_ble_eq_true rfl⟩ w_210 (Nat.le_of_ble_eq_true rfl) (fun u3 hu3 hcu3 hzu3 => ?_)
      refine sr_pop (pc' := 208) dX8_read_207 rfl rfl ?_
      refine sr_iinc (lv' := [some (vR 0), some (vI x1), none, some (vI x3), none, some (vI x5), some (vI (wI (x6 + 1))), none, none]) (pc' := 211) dX8_read_208 rfl (by decide) rfl rfl ?_
      refine sr_goto (pc' := 163) dX8_read_211 rfl ?_
      exact ih x1 x3 x5 (wI (x6 + 1)) u3.2
def ww_read_157   (x1 x3 x5 s1 : Int) (μ : Mem) : Option (Int × Mem) := bnd (mset μ 57 3 s1) fun μ1 => ww_read_163 BIG x1 x3 x5 0 μ1
theorem ww_read_157_s {l : Launch} {G : Nv}     : ∀ (x1 x3 x5 s1 : Int) (μ : Mem), SR l G S88 mX8_read (ww_read_157 x1 x3 x5 s1 μ) jIM 157 [some (vR 0), some (vI x1), none, some (vI x3), none, some (vI x5), none, none, none] [vI s1, vR 57] μ := by
  intro x1 x3 x5 s1 μ
  unfold ww_read_157
  refine sr_putIN (k := 3) (pc' := 160) cls_X6 dX8_read_157 rfl s88_57 rfl (by decide) w_211 rfl rfl (fun μ1 hμ1 => ?_)
  refine sr_iconst (pc' := 161) dX8_read_160 rfl (by decide) ?_
  refine sr_istore (lv' := [some (vR 0), some (vI x1), none, some (vI x3), none, some (vI x5), some (vI 0), none, none]) (pc' := 163) dX8_read_161 rfl (by decide) rfl ?_
  exact ww_read_163_s BIG x1 x3 x5 0 μ1
def ww_read_54   : Nat → Int → Int → Int → Int → Int → Int → Mem → Option (Int × Mem)
  | 0, _, _, _, _, _, _, _ => none
  | n + 1, x1, x2, x3, x4, x5, x6, μ => if x5 ≤ x6 then (if x4 = 0 then (ww_read_157 x1 x3 x5 0 μ) else ((she_faultOfPairs μ x1 x2 x5 x4).bind fun u1 => ww_read_157 x1 x3 x5 u1 μ)) else ((she_cell μ x1 (wI (x3 + (wI (2 * x6))))).bind fun u2 => (she_cell μ x1 (wI ((wI (x3 + (wI (2 * x6)))) + 1))).bind fun u3 => (roa_refusesTrack 1 μ u2 u3 (wI ((μ 1 11) + x6))).bind fun u4 => if u4 = 0 then (ww_read_54 n x1 x2 x3 x4 x5 (wI (x6 + 1)) μ) else (some (wI ((-20) - x6), μ)))
theorem ww_read_54_s {l : Launch} {G : Nv}     : ∀ (n : Nat) (x1 x2 x3 x4 x5 x6 : Int) (μ : Mem), SR l G S88 mX8_read (ww_read_54 n x1 x2 x3 x4 x5 x6 μ) jIM 54 [some (vR 0), some (vI x1), some (vI x2), some (vI x3), some (vI x4), some (vI x5), some (vI x6), none, none] [] μ := by
  intro n
  induction n with
  | zero => intro x1 x2 x3 x4 x5 x6 μ; exact sr_none
  | succ n ih =>
    intro x1 x2 x3 x4 x5 x6 μ
    rw [ww_read_54.eq_2]
    refine sr_iload (pc' := 56) dX8_read_54 rfl rfl ?_
    refine sr_iload (pc' := 58) dX8_read_56 rfl rfl ?_
    refine sr_icmp_ge (pc' := 61) (tgt := 131) dX8_read_58 rfl rfl (fun c58 => ?_) (fun c58 => ?_)
    · refine sr_aload_n (i := 0) (pc' := 132) dX8_read_131 rfl rfl rfl ?_
      refine sr_getR (k := 9) (b := 57) (pc' := 135) cls_X8 dX8_read_132 rfl s88_0 rfl (by decide) w_58 ?_
      refine sr_iload (pc' := 137) dX8_read_135 rfl rfl ?_
      refine sr_if_ne (pc' := 140) (tgt := 144) dX8_read_137 rfl rfl (fun c137 => ?_) (fun c137 => ?_)
      · refine sr_iconst (pc' := 141) dX8_read_140 rfl (by decide) ?_
        refine sr_goto (pc' := 157) dX8_read_141 rfl ?_
        refine sr_fgt (fgt_s (fgt_s (fgt_n (fgt_s (fgt_n (fgt_s (fgt_n (fgt_s (fgt_s fgt_nil))))))))) ?_
        exact ww_read_157_s x1 x3 x5 0 μ
      · refine sr_aload_n (i := 0) (pc' := 145) dX8_read_144 rfl rfl rfl ?_
        refine sr_getR (k := 9) (b := 57) (pc' := 148) cls_X8 dX8_read_145 rfl s88_0 rfl (by decide) w_58 ?_
        refine sr_iload_n (i := 1) (pc' := 149) dX8_read_148 rfl rfl rfl ?_
        refine sr_iload_n (i := 2) (pc' := 150) dX8_read_149 rfl rfl rfl ?_
        refine sr_iload (pc' := 152) dX8_read_150 rfl rfl ?_
        refine sr_iload (pc' := 154) dX8_read_152 rfl rfl ?_
        refine sr_callVN4_I (pc' := 157) (she_faultOfPairs_sp x1 x2 x5 x4 μ) dX8_read_154 rfl mg_X6_faultOfPairs mi_X6_faultOfPairs (Or.inl ⟨6, _, TX6, 4, s88_57, rfl⟩) ⟨Nat.le_of_ble_eq_true rfl, Nat.le_of_ble_eq_true rfl⟩ w_212 (Nat.le_of_ble_eq_true rfl) (fun u1 hu1 hcu1 hzu1 => ?_)
        refine sr_fgt (fgt_s (fgt_s (fgt_n (fgt_s (fgt_n (fgt_s (fgt_n (fgt_s (fgt_s fgt_nil))))))))) ?_
        exact ww_read_157_s x1 x3 x5 u1 μ
    · refine sr_aload_n (i := 0) (pc' := 62) dX8_read_61 rfl rfl rfl ?_
      refine sr_getR (k := 9) (b := 57) (pc' := 65) cls_X8 dX8_read_62 rfl s88_0 rfl (by decide) w_58 ?_
      refine sr_iload_n (i := 1) (pc' := 66) dX8_read_65 rfl rfl rfl ?_
      refine sr_iload_n (i := 3) (pc' := 67) dX8_read_66 rfl rfl rfl ?_
      refine sr_iconst (pc' := 68) dX8_read_67 rfl (by decide) ?_
      refine sr_iload (pc' := 70) dX8_read_68 rfl rfl ?_
      refine sr_imul (pc' := 71) dX8_read_70 rfl ?_
      refine sr_iadd (pc' := 72) dX8_read_71 rfl ?_
      refine sr_callVN2_I (pc' := 75) (she_cell_sp x1 (wI (x3 + (wI (2 * x6)))) μ) dX8_read_72 rfl mg_X6_cell mi_X6_cell (Or.inl ⟨6, _, TX6, 4, s88_57, rfl⟩) ⟨Nat.le_of_ble_eq_true rfl, Nat.le_of_ble_eq_true rfl⟩ w_209 (Nat.le_of_ble_eq_true rfl) (fun u2 hu2 hcu2 hzu2 => ?_)
      refine sr_istore (lv' := [some (vR 0), some (vI x1), some (vI x2), some (vI x3), some (vI x4), some (vI x5), some (vI x6), some (vI u2), none]) (pc' := 77) dX8_read_75 rfl (by decide) rfl ?_
      refine sr_aload_n (i := 0) (pc' := 78) dX8_read_77 rfl rfl rfl ?_
      refine sr_getR (k := 9) (b := 57) (pc' := 81) cls_X8 dX8_read_78 rfl s88_0 rfl (by decide) w_58 ?_
      refine sr_iload_n (i := 1) (pc' := 82) dX8_read_81 rfl rfl rfl ?_
      refine sr_iload_n (i := 3) (pc' := 83) dX8_read_82 rfl rfl rfl ?_
      refine sr_iconst (pc' := 84) dX8_read_83 rfl (by decide) ?_
      refine sr_iload (pc' := 86) dX8_read_84 rfl rfl ?_
      refine sr_imul (pc' := 87) dX8_read_86 rfl ?_
      refine sr_iadd (pc' := 88) dX8_read_87 rfl ?_
      refine sr_iconst (pc' := 89) dX8_read_88 rfl (by decide) ?_
      refine sr_iadd (pc' := 90) dX8_read_89 rfl ?_
      refine sr_callVN2_I (pc' := 93) (she_cell_sp x1 (wI ((wI (x3 + (wI (2 * x6)))) + 1)) μ) dX8_read_90 rfl mg_X6_cell mi_X6_cell (Or.inl ⟨6, _, TX6, 4, s88_57, rfl⟩) ⟨Nat.le_of_ble_eq_true rfl, Nat.le_of_ble_eq_true rfl⟩ w_209 (Nat.le_of_ble_eq_true rfl) (fun u3 hu3 hcu3 hzu3 => ?_)
      refine sr_istore (lv' := [some (vR 0), some (vI x1), some (vI x2), some (vI x3), some (vI x4), some (vI x5), some (vI x6), some (vI u2), some (vI u3)]) (pc' := 95) dX8_read_93 rfl (by decide) rfl ?_
      refine sr_aload_n (i := 0) (pc' := 96) dX8_read_95 rfl rfl rfl ?_
      refine sr_getR (k := 0) (b := 1) (pc' := 99) cls_X8 dX8_read_96 rfl s88_0 rfl (by decide) w_19 ?_
      refine sr_iload (pc' := 101) dX8_read_99 rfl rfl ?_
      refine sr_iload (pc' := 103) dX8_read_101 rfl rfl ?_
      refine sr_aload_n (i := 0) (pc' := 104) dX8_read_103 rfl rfl rfl ?_
      refine sr_getR (k := 0) (b := 1) (pc' := 107) cls_X8 dX8_read_104 rfl s88_0 rfl (by decide) w_19 ?_
      refine sr_getI (k := 11) (pc' := 110) cls_X4 dX8_read_107 rfl isRoad_1.1 rfl (by decide) w_54 ?_
      refine sr_iload (pc' := 112) dX8_read_110 rfl rfl ?_
      refine sr_iadd (pc' := 113) dX8_read_112 rfl ?_
      refine sr_callVN3_I (pc' := 116) (roa_refusesTrack_sp isRoad_1 u2 u3 (wI ((μ 1 11) + x6)) μ) dX8_read_113 rfl mg_X4_refusesTrack mi_X4_refusesTrack (Or.inl ⟨4, _, TX4, 12, isRoad_1.1, rfl⟩) ⟨Nat.le_of_ble_eq_true rfl, Nat.le_of_ble_eq_true rfl⟩ w_213 (Nat.le_of_ble_eq_true rfl) (fun u4 hu4 hcu4 hzu4 => ?_)
      refine sr_if_eq (pc' := 119) (tgt := 125) dX8_read_116 rfl rfl (fun c116 => ?_) (fun c116 => ?_)
      · refine sr_iinc (lv' := [some (vR 0), some (vI x1), some (vI x2), some (vI x3), some (vI x4), some (vI x5), some (vI (wI (x6 + 1))), some (vI u2), some (vI u3)]) (pc' := 128) dX8_read_125 rfl (by decide) rfl rfl ?_
        refine sr_goto (pc' := 54) dX8_read_128 rfl ?_
        refine sr_fgt (fgt_s (fgt_s (fgt_s (fgt_s (fgt_s (fgt_s (fgt_s (fgt_n (fgt_n fgt_nil))))))))) ?_
        exact ih x1 x2 x3 x4 x5 (wI (x6 + 1)) μ
      · refine sr_bipush (pc' := 121) dX8_read_119 rfl (by decide) (by decide) ?_
        refine sr_iload (pc' := 123) dX8_read_121 rfl rfl ?_
        refine sr_isub (pc' := 124) dX8_read_123 rfl ?_
        exact sr_iretI dX8_read_124 rfl rfl
def ww_read_49   (x1 x2 x3 x4 s0 : Int) (μ : Mem) : Option (Int × Mem) := ww_read_54 BIG x1 x2 x3 x4 s0 0 μ
theorem ww_read_49_s {l : Launch} {G : Nv}     : ∀ (x1 x2 x3 x4 s0 : Int) (μ : Mem), SR l G S88 mX8_read (ww_read_49 x1 x2 x3 x4 s0 μ) jIM 49 [some (vR 0), some (vI x1), some (vI x2), some (vI x3), some (vI x4), none, none, none, none] [vI s0] μ := by
  intro x1 x2 x3 x4 s0 μ
  unfold ww_read_49
  refine sr_istore (lv' := [some (vR 0), some (vI x1), some (vI x2), some (vI x3), some (vI x4), some (vI s0), none, none, none]) (pc' := 51) dX8_read_49 rfl (by decide) rfl ?_
  refine sr_iconst (pc' := 52) dX8_read_51 rfl (by decide) ?_
  refine sr_istore (lv' := [some (vR 0), some (vI x1), some (vI x2), some (vI x3), some (vI x4), some (vI s0), some (vI 0), none, none]) (pc' := 54) dX8_read_52 rfl (by decide) rfl ?_
  exact ww_read_54_s BIG x1 x2 x3 x4 s0 0 μ
def ww_read   (x1 x2 x3 x4 : Int) (μ : Mem) : Option (Int × Mem) := (she_isSheet μ x1).bind fun u1 => if u1 = 0 then (some ((-1), μ)) else ((she_isLane μ x2).bind fun u2 => if u2 = 0 then (some ((-1), μ)) else (if x4 < 0 then (some ((-1), μ)) else (if x4 ≤ 8 then (if x4 = 0 then (ww_read_49 x1 x2 x3 x4 0 μ) else ((she_wholePairs μ x1 x2 x3 x4).bind fun u3 => ww_read_49 x1 x2 x3 x4 u3 μ)) else (some ((-1), μ)))))
theorem ww_read_sp {l : Launch} {G : Nv}   (x1 x2 x3 x4 : Int) (μ : Mem) : SP l G S88 mX8_read [vR 0, vI x1, vI x2, vI x3, vI x4] μ (ww_read x1 x2 x3 x4 μ) jIM := by
  refine sp_go (lv := [some (vR 0), some (vI x1), some (vI x2), some (vI x3), some (vI x4), none, none, none, none]) pn_X8 (Nat.le_of_ble_eq_true rfl) rfl ?_
  unfold ww_read
  refine sr_iload_n (i := 1) (pc' := 1) dX8_read_0 rfl rfl rfl ?_
  refine sr_callSN1_I (pc' := 4) (she_isSheet_sp x1 μ) dX8_read_1 rfl mg_X6_isSheet ms_X6_isSheet ⟨Nat.le_of_ble_eq_true rfl, Nat.le_of_ble_eq_true rfl⟩ w_143 (Nat.le_of_ble_eq_true rfl) (fun u1 hu1 hcu1 hzu1 => ?_)
  refine sr_if_eq (pc' := 7) (tgt := 26) dX8_read_4 rfl rfl (fun c4 => ?_) (fun c4 => ?_)
  · refine sr_iconst (pc' := 27) dX8_read_26 rfl (by decide) ?_
    exact sr_iretI dX8_read_27 rfl rfl
  · refine sr_iload_n (i := 2) (pc' := 8) dX8_read_7 rfl rfl rfl ?_
    refine sr_callSN1_I (pc' := 11) (she_isLane_sp x2 μ) dX8_read_8 rfl mg_X6_isLane ms_X6_isLane ⟨Nat.le_of_ble_eq_true rfl, Nat.le_of_ble_eq_true rfl⟩ w_214 (Nat.le_of_ble_eq_true rfl) (fun u2 hu2 hcu2 hzu2 => ?_)
    refine sr_if_eq (pc' := 14) (tgt := 26) dX8_read_11 rfl rfl (fun c11 => ?_) (fun c11 => ?_)
    · refine sr_iconst (pc' := 27) dX8_read_26 rfl (by decide) ?_
      exact sr_iretI dX8_read_27 rfl rfl
    · refine sr_iload (pc' := 16) dX8_read_14 rfl rfl ?_
      refine sr_if_lt (pc' := 19) (tgt := 26) dX8_read_16 rfl rfl (fun c16 => ?_) (fun c16 => ?_)
      · refine sr_iconst (pc' := 27) dX8_read_26 rfl (by decide) ?_
        exact sr_iretI dX8_read_27 rfl rfl
      · refine sr_iload (pc' := 21) dX8_read_19 rfl rfl ?_
        refine sr_bipush (pc' := 23) dX8_read_21 rfl (by decide) (by decide) ?_
        refine sr_icmp_le (pc' := 26) (tgt := 28) dX8_read_23 rfl rfl (fun c23 => ?_) (fun c23 => ?_)
        · refine sr_iload (pc' := 30) dX8_read_28 rfl rfl ?_
          refine sr_if_ne (pc' := 33) (tgt := 37) dX8_read_30 rfl rfl (fun c30 => ?_) (fun c30 => ?_)
          · refine sr_iconst (pc' := 34) dX8_read_33 rfl (by decide) ?_
            refine sr_goto (pc' := 49) dX8_read_34 rfl ?_
            exact ww_read_49_s x1 x2 x3 x4 0 μ
          · refine sr_aload_n (i := 0) (pc' := 38) dX8_read_37 rfl rfl rfl ?_
            refine sr_getR (k := 9) (b := 57) (pc' := 41) cls_X8 dX8_read_38 rfl s88_0 rfl (by decide) w_58 ?_
            refine sr_iload_n (i := 1) (pc' := 42) dX8_read_41 rfl rfl rfl ?_
            refine sr_iload_n (i := 2) (pc' := 43) dX8_read_42 rfl rfl rfl ?_
            refine sr_iload_n (i := 3) (pc' := 44) dX8_read_43 rfl rfl rfl ?_
            refine sr_iload (pc' := 46) dX8_read_44 rfl rfl ?_
            refine sr_callVN4_I (pc' := 49) (she_wholePairs_sp x1 x2 x3 x4 μ) dX8_read_46 rfl mg_X6_wholePairs mi_X6_wholePairs (Or.inl ⟨6, _, TX6, 4, s88_57, rfl⟩) ⟨Nat.le_of_ble_eq_true rfl, Nat.le_of_ble_eq_true rfl⟩ w_215 (Nat.le_of_ble_eq_true rfl) (fun u3 hu3 hcu3 hzu3 => ?_)
            exact ww_read_49_s x1 x2 x3 x4 u3 μ
        · refine sr_iconst (pc' := 27) dX8_read_26 rfl (by decide) ?_
          exact sr_iretI dX8_read_27 rfl rfl
