def rea_takeWidth   (μ : Mem) : Option (Int × Mem) := (rea_takeNumber 0 2 μ).bind fun u1 => some (u1.1, u1.2)
theorem rea_takeWidth_sp {l : Launch} {G : Nv}   (μ : Mem) : SP l G S88 mX3_takeWidth [vR 25] μ (rea_takeWidth μ) jIM := by
  refine sp_go (lv := [some (vR 25)]) pn_X3 (Nat.le_of_ble_eq_true rfl) rfl ?_
  unfold rea_takeWidth
  refine sr_aload_n (i := 0) (pc' := 1) dX3_takeWidth_0 rfl rfl rfl ?_
  refine sr_iconst (pc' := 2) dX3_takeWidth_1 rfl (by decide) ?_
  refine sr_iconst (pc' := 3) dX3_takeWidth_2 rfl (by decide) ?_
  refine sr_callV2_IM (pc' := 6) (rea_takeNumber_sp 0 2 μ) dX3_takeWidth_3 rfl mg_X3_takeNumber mi_X3_takeNumber (Or.inl ⟨3, _, TX3, 12, s88_25, rfl⟩) ⟨Nat.le_of_ble_eq_true rfl, Nat.le_of_ble_eq_true rfl⟩ w_244 (Nat.le_of_ble_eq_true rfl) (fun u1 hu1 hcu1 hzu1 => ?_)
  exact sr_iretI dX3_takeWidth_6 rfl rfl
def roa_setHill (r : Nat)  (x1 x2 : Int) (μ : Mem) : Option (Mem) := (ww_put (r + 1) 21 x1 x2 μ).bind fun μ1 => some μ1
theorem roa_setHill_sp {l : Launch} {G : Nv} {Sh : Shp} {r : Nat} (hr : IsRoad Sh r) (x1 x2 : Int) (μ : Mem) : SP l G Sh mX4_setHill [vR r, vI x1, vI x2] μ (roa_setHill r x1 x2 μ) jM := by
  refine sp_go (lv := [some (vR r), some (vI x1), some (vI x2)]) pn_X4 (Nat.le_of_ble_eq_true rfl) rfl ?_
  unfold roa_setHill
  refine sr_aload_n (i := 0) (pc' := 1) dX4_setHill_0 rfl rfl rfl ?_
  refine sr_getR (k := 0) (b := (r + 1)) (pc' := 4) cls_X4 dX4_setHill_1 rfl hr.1 rfl (by decide) w_2 ?_
  refine sr_iload_n (i := 1) (pc' := 5) dX4_setHill_4 rfl rfl rfl ?_
  refine sr_iload_n (i := 2) (pc' := 6) dX4_setHill_5 rfl rfl rfl ?_
  refine sr_callSN3_M (pc' := 9) (ww_put_sp hr.2.1 (by decide) x1 x2 μ) dX4_setHill_6 rfl mg_X8_put ms_X8_put ⟨Nat.le_of_ble_eq_true rfl, Nat.le_of_ble_eq_true rfl⟩ w_208 (Nat.le_of_ble_eq_true rfl) (fun μ1 hμ1 => ?_)
  exact sr_ret dX4_setHill_9 rfl rfl
def rea_takeHill   (μ : Mem) : Option (Int × Mem) := (rea_takeYard μ).bind fun u1 => if 0 ≤ u1.1 then ((roa_hillAt 27 u1.2 u1.1).bind fun u2 => if u2 = (-4) then ((rea_takeWidth u1.2).bind fun u3 => if 0 ≤ u3.1 then ((roa_setHill 27 u1.1 u3.1 u3.2).bind fun μ4 => (rea_takeSign μ4).bind fun u5 => some (u5.1, u5.2)) else (some (0, u3.2))) else ((rea_refuse 4 (u1.2 25 6) u1.2).bind fun u6 => some (u6.1, u6.2))) else (some (0, u1.2))
theorem rea_takeHill_sp {l : Launch} {G : Nv}   (μ : Mem) : SP l G S88 mX3_takeHill [vR 25] μ (rea_takeHill μ) jIM := by
  refine sp_go (lv := [some (vR 25), none, none]) pn_X3 (Nat.le_of_ble_eq_true rfl) rfl ?_
  unfold rea_takeHill
  refine sr_aload_n (i := 0) (pc' := 1) dX3_takeHill_0 rfl rfl rfl ?_
  refine sr_callV0_IM (pc' := 4) (rea_takeYard_sp μ) dX3_takeHill_1 rfl mg_X3_takeYard mi_X3_takeYard (Or.inl ⟨3, _, TX3, 12, s88_25, rfl⟩) ⟨Nat.le_of_ble_eq_true rfl, Nat.le_of_ble_eq_true rfl⟩ w_247 (Nat.le_of_ble_eq_true rfl) (fun u1 hu1 hcu1 hzu1 => ?_)
  refine sr_istore_n (i := 1) (lv' := [some (vR 25), some (vI u1.1), none]) (pc' := 5) dX3_takeHill_4 rfl rfl (by decide) rfl ?_
  refine sr_iload_n (i := 1) (pc' := 6) dX3_takeHill_5 rfl rfl rfl ?_
  refine sr_if_ge (pc' := 9) (tgt := 11) dX3_takeHill_6 rfl rfl (fun c6 => ?_) (fun c6 => ?_)
  · refine sr_aload_n (i := 0) (pc' := 12) dX3_takeHill_11 rfl rfl rfl ?_
    refine sr_getR (k := 2) (b := 27) (pc' := 15) cls_X3 dX3_takeHill_12 rfl s88_25 rfl (by decide) w_227 ?_
    refine sr_iload_n (i := 1) (pc' := 16) dX3_takeHill_15 rfl rfl rfl ?_
    refine sr_callVN1_I (pc' := 19) (roa_hillAt_sp isRoad_27 u1.1 u1.2) dX3_takeHill_16 rfl mg_X4_hillAt mi_X4_hillAt (Or.inl ⟨4, _, TX4, 12, isRoad_27.1, rfl⟩) ⟨Nat.le_of_ble_eq_true rfl, Nat.le_of_ble_eq_true rfl⟩ w_250 (Nat.le_of_ble_eq_true rfl) (fun u2 hu2 hcu2 hzu2 => ?_)
    refine sr_bipush (pc' := 21) dX3_takeHill_19 rfl (by decide) (by decide) ?_
    refine sr_icmp_eq (pc' := 24) (tgt := 34) dX3_takeHill_21 rfl rfl (fun c21 => ?_) (fun c21 => ?_)
    · refine sr_aload_n (i := 0) (pc' := 35) dX3_takeHill_34 rfl rfl rfl ?_
      refine sr_callV0_IM (pc' := 38) (rea_takeWidth_sp u1.2) dX3_takeHill_35 rfl mg_X3_takeWidth mi_X3_takeWidth (Or.inl ⟨3, _, TX3, 12, s88_25, rfl⟩) ⟨Nat.le_of_ble_eq_true rfl, Nat.le_of_ble_eq_true rfl⟩ w_251 (Nat.le_of_ble_eq_true rfl) (fun u3 hu3 hcu3 hzu3 => ?_)
      refine sr_istore_n (i := 2) (lv' := [some (vR 25), some (vI u1.1), some (vI u3.1)]) (pc' := 39) dX3_takeHill_38 rfl rfl (by decide) rfl ?_
      refine sr_iload_n (i := 2) (pc' := 40) dX3_takeHill_39 rfl rfl rfl ?_
      refine sr_if_ge (pc' := 43) (tgt := 45) dX3_takeHill_40 rfl rfl (fun c40 => ?_) (fun c40 => ?_)
      · refine sr_aload_n (i := 0) (pc' := 46) dX3_takeHill_45 rfl rfl rfl ?_
        refine sr_getR (k := 2) (b := 27) (pc' := 49) cls_X3 dX3_takeHill_46 rfl s88_25 rfl (by decide) w_227 ?_
        refine sr_iload_n (i := 1) (pc' := 50) dX3_takeHill_49 rfl rfl rfl ?_
        refine sr_iload_n (i := 2) (pc' := 51) dX3_takeHill_50 rfl rfl rfl ?_
        refine sr_callVN2_M (pc' := 54) (roa_setHill_sp isRoad_27 u1.1 u3.1 u3.2) dX3_takeHill_51 rfl mg_X4_setHill mi_X4_setHill (Or.inl ⟨4, _, TX4, 12, isRoad_27.1, rfl⟩) ⟨Nat.le_of_ble_eq_true rfl, Nat.le_of_ble_eq_true rfl⟩ w_252 (Nat.le_of_ble_eq_true rfl) (fun μ4 hμ4 => ?_)
        refine sr_aload_n (i := 0) (pc' := 55) dX3_takeHill_54 rfl rfl rfl ?_
        refine sr_callV0_IM (pc' := 58) (rea_takeSign_sp μ4) dX3_takeHill_55 rfl mg_X3_takeSign mi_X3_takeSign (Or.inl ⟨3, _, TX3, 12, s88_25, rfl⟩) ⟨Nat.le_of_ble_eq_true rfl, Nat.le_of_ble_eq_true rfl⟩ w_245 (Nat.le_of_ble_eq_true rfl) (fun u5 hu5 hcu5 hzu5 => ?_)
        exact sr_iretZ dX3_takeHill_58 rfl (hzu5 rfl)  rfl
      · refine sr_iconst (pc' := 44) dX3_takeHill_43 rfl (by decide) ?_
        exact sr_iretZ dX3_takeHill_44 rfl (Or.inl rfl) rfl
    · refine sr_aload_n (i := 0) (pc' := 25) dX3_takeHill_24 rfl rfl rfl ?_
      refine sr_iconst (pc' := 26) dX3_takeHill_25 rfl (by decide) ?_
      refine sr_aload_n (i := 0) (pc' := 27) dX3_takeHill_26 rfl rfl rfl ?_
      refine sr_getI (k := 6) (pc' := 30) cls_X3 dX3_takeHill_27 rfl s88_25 rfl (by decide) w_223 ?_
      refine sr_callV2_IM (pc' := 33) (rea_refuse_sp 4 (u1.2 25 6) u1.2) dX3_takeHill_30 rfl mg_X3_refuse mi_X3_refuse (Or.inl ⟨3, _, TX3, 12, s88_25, rfl⟩) ⟨Nat.le_of_ble_eq_true rfl, Nat.le_of_ble_eq_true rfl⟩ w_224 (Nat.le_of_ble_eq_true rfl) (fun u6 hu6 hcu6 hzu6 => ?_)
      exact sr_iretZ dX3_takeHill_33 rfl (hzu6 rfl)  rfl
  · refine sr_iconst (pc' := 10) dX3_takeHill_9 rfl (by decide) ?_
    exact sr_iretZ dX3_takeHill_10 rfl (Or.inl rfl) rfl
def roa_setSmith (r : Nat)  (x1 x2 : Int) (μ : Mem) : Option (Mem) := (ww_put (r + 2) 21 x1 x2 μ).bind fun μ1 => some μ1
theorem roa_setSmith_sp {l : Launch} {G : Nv} {Sh : Shp} {r : Nat} (hr : IsRoad Sh r) (x1 x2 : Int) (μ : Mem) : SP l G Sh mX4_setSmith [vR r, vI x1, vI x2] μ (roa_setSmith r x1 x2 μ) jM := by
  refine sp_go (lv := [some (vR r), some (vI x1), some (vI x2)]) pn_X4 (Nat.le_of_ble_eq_true rfl) rfl ?_
  unfold roa_setSmith
  refine sr_aload_n (i := 0) (pc' := 1) dX4_setSmith_0 rfl rfl rfl ?_
  refine sr_getR (k := 1) (b := (r + 2)) (pc' := 4) cls_X4 dX4_setSmith_1 rfl hr.1 rfl (by decide) w_4 ?_
  refine sr_iload_n (i := 1) (pc' := 5) dX4_setSmith_4 rfl rfl rfl ?_
  refine sr_iload_n (i := 2) (pc' := 6) dX4_setSmith_5 rfl rfl rfl ?_
  refine sr_callSN3_M (pc' := 9) (ww_put_sp hr.2.2.1 (by decide) x1 x2 μ) dX4_setSmith_6 rfl mg_X8_put ms_X8_put ⟨Nat.le_of_ble_eq_true rfl, Nat.le_of_ble_eq_true rfl⟩ w_208 (Nat.le_of_ble_eq_true rfl) (fun μ1 hμ1 => ?_)
  exact sr_ret dX4_setSmith_9 rfl rfl
def rea_takeSmith   (μ : Mem) : Option (Int × Mem) := (rea_takeYard μ).bind fun u1 => if 0 ≤ u1.1 then ((roa_smithAt 27 u1.2 u1.1).bind fun u2 => if u2 = (-4) then ((rea_takeNumber 0 9 u1.2).bind fun u3 => if 0 ≤ u3.1 then ((roa_setSmith 27 u1.1 u3.1 u3.2).bind fun μ4 => (rea_takeSign μ4).bind fun u5 => some (u5.1, u5.2)) else (some (0, u3.2))) else ((rea_refuse 4 (u1.2 25 6) u1.2).bind fun u6 => some (u6.1, u6.2))) else (some (0, u1.2))
theorem rea_takeSmith_sp {l : Launch} {G : Nv}   (μ : Mem) : SP l G S88 mX3_takeSmith [vR 25] μ (rea_takeSmith μ) jIM := by
  refine sp_go (lv := [some (vR 25), none, none]) pn_X3 (Nat.le_of_ble_eq_true rfl) rfl ?_
  unfold rea_takeSmith
  refine sr_aload_n (i := 0) (pc' := 1) dX3_takeSmith_0 rfl rfl rfl ?_
  refine sr_callV0_IM (pc' := 4) (rea_takeYard_sp μ) dX3_takeSmith_1 rfl mg_X3_takeYard mi_X3_takeYard (Or.inl ⟨3, _, TX3, 12, s88_25, rfl⟩) ⟨Nat.le_of_ble_eq_true rfl, Nat.le_of_ble_eq_true rfl⟩ w_247 (Nat.le_of_ble_eq_true rfl) (fun u1 hu1 hcu1 hzu1 => ?_)
  refine sr_istore_n (i := 1) (lv' := [some (vR 25), some (vI u1.1), none]) (pc' := 5) dX3_takeSmith_4 rfl rfl (by decide) rfl ?_
  refine sr_iload_n (i := 1) (pc' := 6) dX3_takeSmith_5 rfl rfl rfl ?_
  refine sr_if_ge (pc' := 9) (tgt := 11) dX3_takeSmith_6 rfl rfl (fun c6 => ?_) (fun c6 => ?_)
  · refine sr_aload_n (i := 0) (pc' := 12) dX3_takeSmith_11 rfl rfl rfl ?_
    refine sr_getR (k := 2) (b := 27) (pc' := 15) cls_X3 dX3_takeSmith_12 rfl s88_25 rfl (by decide) w_227 ?_
    refine sr_iload_n (i := 1) (pc' := 16) dX3_takeSmith_15 rfl rfl rfl ?_
    refine sr_callVN1_I (pc' := 19) (roa_smithAt_sp isRoad_27 u1.1 u1.2) dX3_takeSmith_16 rfl mg_X4_smithAt mi_X4_smithAt (Or.inl ⟨4, _, TX4, 12, isRoad_27.1, rfl⟩) ⟨Nat.le_of_ble_eq_true rfl, Nat.le_of_ble_eq_true rfl⟩ w_253 (Nat.le_of_ble_eq_true rfl) (fun u2 hu2 hcu2 hzu2 => ?_)
    refine sr_bipush (pc' := 21) dX3_takeSmith_19 rfl (by decide) (by decide) ?_
    refine sr_icmp_eq (pc' := 24) (tgt := 34) dX3_takeSmith_21 rfl rfl (fun c21 => ?_) (fun c21 => ?_)
    · refine sr_aload_n (i := 0) (pc' := 35) dX3_takeSmith_34 rfl rfl rfl ?_
      refine sr_iconst (pc' := 36) dX3_takeSmith_35 rfl (by decide) ?_
      refine sr_bipush (pc' := 38) dX3_takeSmith_36 rfl (by decide) (by decide) ?_
      refine sr_callV2_IM (pc' := 41) (rea_takeNumber_sp 0 9 u1.2) dX3_takeSmith_38 rfl mg_X3_takeNumber mi_X3_takeNumber (Or.inl ⟨3, _, TX3, 12, s88_25, rfl⟩) ⟨Nat.le_of_ble_eq_true rfl, Nat.le_of_ble_eq_true rfl⟩ w_244 (Nat.le_of_ble_eq_true rfl) (fun u3 hu3 hcu3 hzu3 => ?_)
      refine sr_istore_n (i := 2) (lv' := [some (vR 25), some (vI u1.1), some (vI u3.1)]) (pc' := 42) dX3_takeSmith_41 rfl rfl (by decide) rfl ?_
      refine sr_iload_n (i := 2) (pc' := 43) dX3_takeSmith_42 rfl rfl rfl ?_
      refine sr_if_ge (pc' := 46) (tgt := 48) dX3_takeSmith_43 rfl rfl (fun c43 => ?_) (fun c43 => ?_)
      · refine sr_aload_n (i := 0) (pc' := 49) dX3_takeSmith_48 rfl rfl rfl ?_
        refine sr_getR (k := 2) (b := 27) (pc' := 52) cls_X3 dX3_takeSmith_49 rfl s88_25 rfl (by decide) w_227 ?_
        refine sr_iload_n (i := 1) (pc' := 53) dX3_takeSmith_52 rfl rfl rfl ?_
        refine sr_iload_n (i := 2) (pc' := 54) dX3_takeSmith_53 rfl rfl rfl ?_
        refine sr_callVN2_M (pc' := 57) (roa_setSmith_sp isRoad_27 u1.1 u3.1 u3.2) dX3_takeSmith_54 rfl mg_X4_setSmith mi_X4_setSmith (Or.inl ⟨4, _, TX4, 12, isRoad_27.1, rfl⟩) ⟨Nat.le_of_ble_eq_true rfl, Nat.le_of_ble_eq_true rfl⟩ w_254 (Nat.le_of_ble_eq_true rfl) (fun μ4 hμ4 => ?_)
        refine sr_aload_n (i := 0) (pc' := 58) dX3_takeSmith_57 rfl rfl rfl ?_
        refine sr_callV0_IM (pc' := 61) (rea_takeSign_sp μ4) dX3_takeSmith_58 rfl mg_X3_takeSign mi_X3_takeSign (Or.inl ⟨3, _, TX3, 12, s88_25, rfl⟩) ⟨Nat.le_of_ble_eq_true rfl, Nat.le_of_ble_eq_true rfl⟩ w_245 (Nat.le_of_ble_eq_true rfl) (fun u5 hu5 hcu5 hzu5 => ?_)
        exact sr_iretZ dX3_takeSmith_61 rfl (hzu5 rfl)  rfl
      · refine sr_iconst (pc' := 47) dX3_takeSmith_46 rfl (by decide) ?_
        exact sr_iretZ dX3_takeSmith_47 rfl (Or.inl rfl) rfl
    · refine sr_aload_n (i := 0) (pc' := 25) dX3_takeSmith_24 rfl rfl rfl ?_
      refine sr_iconst (pc' := 26) dX3_takeSmith_25 rfl (by decide) ?_
      refine sr_aload_n (i := 0) (pc' := 27) dX3_takeSmith_26 rfl rfl rfl ?_
      refine sr_getI (k := 6) (pc' := 30) cls_X3 dX3_takeSmith_27 rfl s88_25 rfl (by decide) w_223 ?_
      refine sr_callV2_IM (pc' := 33) (rea_refuse_sp 4 (u1.2 25 6) u1.2) dX3_takeSmith_30 rfl mg_X3_refuse mi_X3_refuse (Or.inl ⟨3, _, TX3, 12, s88_25, rfl⟩) ⟨Nat.le_of_ble_eq_true rfl, Nat.le_of_ble_eq_true rfl⟩ w_224 (Nat.le_of_ble_eq_true rfl) (fun u6 hu6 hcu6 hzu6 => ?_)
      exact sr_iretZ dX3_takeSmith_33 rfl (hzu6 rfl)  rfl
  · refine sr_iconst (pc' := 10) dX3_takeSmith_9 rfl (by decide) ?_
    exact sr_iretZ dX3_takeSmith_10 rfl (Or.inl rfl) rfl
def rea_takeToll   (μ : Mem) : Option (Int × Mem) := (rea_takeYard μ).bind fun u1 => if 0 ≤ u1.1 then ((rea_takeWidth u1.2).bind fun u2 => if 0 ≤ u2.1 then ((rea_takeNumber 0 9 u2.2).bind fun u3 => if 0 ≤ u3.1 then ((ww_rut u3.2 u1.1 u2.1).bind fun u4 => (ww_put 30 63 u4 u3.1 u3.2).bind fun μ5 => (rea_takeSign μ5).bind fun u6 => some (u6.1, u6.2)) else (some (0, u3.2))) else (some (0, u2.2))) else (some (0, u1.2))
theorem rea_takeToll_sp {l : Launch} {G : Nv}   (μ : Mem) : SP l G S88 mX3_takeToll [vR 25] μ (rea_takeToll μ) jIM := by
  refine sp_go (lv := [some (vR 25), none, none, none]) pn_X3 (Nat.le_of_ble_eq_true rfl) rfl ?_
  unfold rea_takeToll
  refine sr_aload_n (i := 0) (pc' := 1) dX3_takeToll_0 rfl rfl rfl ?_
  refine sr_callV0_IM (pc' := 4) (rea_takeYard_sp μ) dX3_takeToll_1 rfl mg_X3_takeYard mi_X3_takeYard (Or.inl ⟨3, _, TX3, 12, s88_25, rfl⟩) ⟨Nat.le_of_ble_eq_true rfl, Nat.le_of_ble_eq_true rfl⟩ w_247 (Nat.le_of_ble_eq_true rfl) (fun u1 hu1 hcu1 hzu1 => ?_)
  refine sr_istore_n (i := 1) (lv' := [some (vR 25), some (vI u1.1), none, none]) (pc' := 5) dX3_takeToll_4 rfl rfl (by decide) rfl ?_
  refine sr_iload_n (i := 1) (pc' := 6) dX3_takeToll_5 rfl rfl rfl ?_
  refine sr_if_ge (pc' := 9) (tgt := 11) dX3_takeToll_6 rfl rfl (fun c6 => ?_) (fun c6 => ?_)
  · refine sr_aload_n (i := 0) (pc' := 12) dX3_takeToll_11 rfl rfl rfl ?_
    refine sr_callV0_IM (pc' := 15) (rea_takeWidth_sp u1.2) dX3_takeToll_12 rfl mg_X3_takeWidth mi_X3_takeWidth (Or.inl ⟨3, _, TX3, 12, s88_25, rfl⟩) ⟨Nat.le_of_ble_eq_true rfl, Nat.le_of_ble_eq_true rfl⟩ w_251 (Nat.le_of_ble_eq_true rfl) (fun u2 hu2 hcu2 hzu2 => ?_)
    refine sr_istore_n (i := 2) (lv' := [some (vR 25), some (vI u1.1), some (vI u2.1), none]) (pc' := 16) dX3_takeToll_15 rfl rfl (by decide) rfl ?_
    refine sr_iload_n (i := 2) (pc' := 17) dX3_takeToll_16 rfl rfl rfl ?_
    refine sr_if_ge (pc' := 20) (tgt := 22) dX3_takeToll_17 rfl rfl (fun c17 => ?_) (fun c17 => ?_)
    · refine sr_aload_n (i := 0) (pc' := 23) dX3_takeToll_22 rfl rfl rfl ?_
      refine sr_iconst (pc' := 24) dX3_takeToll_23 rfl (by decide) ?_
      refine sr_bipush (pc' := 26) dX3_takeToll_24 rfl (by decide) (by decide) ?_
      refine sr_callV2_IM (pc' := 29) (rea_takeNumber_sp 0 9 u2.2) dX3_takeToll_26 rfl mg_X3_takeNumber mi_X3_takeNumber (Or.inl ⟨3, _, TX3, 12, s88_25, rfl⟩) ⟨Nat.le_of_ble_eq_true rfl, Nat.le_of_ble_eq_true rfl⟩ w_244 (Nat.le_of_ble_eq_true rfl) (fun u3 hu3 hcu3 hzu3 => ?_)
      refine sr_istore_n (i := 3) (lv' := [some (vR 25), some (vI u1.1), some (vI u2.1), some (vI u3.1)]) (pc' := 30) dX3_takeToll_29 rfl rfl (by decide) rfl ?_
      refine sr_iload_n (i := 3) (pc' := 31) dX3_takeToll_30 rfl rfl rfl ?_
      refine sr_if_ge (pc' := 34) (tgt := 36) dX3_takeToll_31 rfl rfl (fun c31 => ?_) (fun c31 => ?_)
      · refine sr_aload_n (i := 0) (pc' := 37) dX3_takeToll_36 rfl rfl rfl ?_
        refine sr_getR (k := 2) (b := 27) (pc' := 40) cls_X3 dX3_takeToll_37 rfl s88_25 rfl (by decide) w_227 ?_
        refine sr_getR (k := 2) (b := 30) (pc' := 43) cls_X4 dX3_takeToll_40 rfl isRoad_27.1 rfl (by decide) w_255 ?_
        refine sr_iload_n (i := 1) (pc' := 44) dX3_takeToll_43 rfl rfl rfl ?_
        refine sr_iload_n (i := 2) (pc' := 45) dX3_takeToll_44 rfl rfl rfl ?_
        refine sr_callSN2_I (pc' := 48) (ww_rut_sp u1.1 u2.1 u3.2) dX3_takeToll_45 rfl mg_X8_rut ms_X8_rut ⟨Nat.le_of_ble_eq_true rfl, Nat.le_of_ble_eq_true rfl⟩ w_256 (Nat.le_of_ble_eq_true rfl) (fun u4 hu4 hcu4 hzu4 => ?_)
        refine sr_iload_n (i := 3) (pc' := 49) dX3_takeToll_48 rfl rfl rfl ?_
        refine sr_callSN3_M (pc' := 52) (ww_put_sp isRoad_27.2.2.2.1 (by decide) u4 u3.1 u3.2) dX3_takeToll_49 rfl mg_X8_put ms_X8_put ⟨Nat.le_of_ble_eq_true rfl, Nat.le_of_ble_eq_true rfl⟩ w_257 (Nat.le_of_ble_eq_true rfl) (fun μ5 hμ5 => ?_)
        refine sr_aload_n (i := 0) (pc' := 53) dX3_takeToll_52 rfl rfl rfl ?_
        refine sr_callV0_IM (pc' := 56) (rea_takeSign_sp μ5) dX3_takeToll_53 rfl mg_X3_takeSign mi_X3_takeSign (Or.inl ⟨3, _, TX3, 12, s88_25, rfl⟩) ⟨Nat.le_of_ble_eq_true rfl, Nat.le_of_ble_eq_true rfl⟩ w_245 (Nat.le_of_ble_eq_true rfl) (fun u6 hu6 hcu6 hzu6 => ?_)
        exact sr_iretZ dX3_takeToll_56 rfl (hzu6 rfl)  rfl
      · refine sr_iconst (pc' := 35) dX3_takeToll_34 rfl (by decide) ?_
        exact sr_iretZ dX3_takeToll_35 rfl (Or.inl rfl) rfl
    · refine sr_iconst (pc' := 21) dX3_takeToll_20 rfl (by decide) ?_
      exact sr_iretZ dX3_takeToll_21 rfl (Or.inl rfl) rfl
  · refine sr_iconst (pc' := 10) dX3_takeToll_9 rfl (by decide) ?_
    exact sr_iretZ dX3_takeToll_10 rfl (Or.inl rfl) rfl
def rea_takeRut   (μ : Mem) : Option (Int × Mem) := (rea_takeYard μ).bind fun u1 => if 0 ≤ u1.1 then ((rea_takeWidth u1.2).bind fun u2 => if 0 ≤ u2.1 then ((rea_takeNumber 0 99 u2.2).bind fun u3 => if 0 ≤ u3.1 then ((ww_rut u3.2 u1.1 u2.1).bind fun u4 => (ww_put 31 63 u4 u3.1 u3.2).bind fun μ5 => (ww_rut μ5 u1.1 u2.1).bind fun u6 => bnd (mset μ5 25 10 (lOr (μ5 25 10) (lShl 1 u6))) fun μ7 => (rea_takeSign μ7).bind fun u8 => some (u8.1, u8.2)) else (some (0, u3.2))) else (some (0, u2.2))) else (some (0, u1.2))
theorem rea_takeRut_sp {l : Launch} {G : Nv}   (μ : Mem) : SP l G S88 mX3_takeRut [vR 25] μ (rea_takeRut μ) jIM := by
  refine sp_go (lv := [some (vR 25), none, none, none]) pn_X3 (Nat.le_of_ble_eq_true rfl) rfl ?_
  unfold rea_takeRut
  refine sr_aload_n (i := 0) (pc' := 1) dX3_takeRut_0 rfl rfl rfl ?_
  refine sr_callV0_IM (pc' := 4) (rea_takeYard_sp μ) dX3_takeRut_1 rfl mg_X3_takeYard mi_X3_takeYard (Or.inl ⟨3, _, TX3, 12, s88_25, rfl⟩) ⟨Nat.le_of_ble_eq_true rfl, Nat.le_of_ble_eq_true rfl⟩ w_247 (Nat.le_of_ble_eq_true rfl) (fun u1 hu1 hcu1 hzu1 => ?_)
  refine sr_istore_n (i := 1) (lv' := [some (vR 25), some (vI u1.1), none, none]) (pc' := 5) dX3_takeRut_4 rfl rfl (by decide) rfl ?_
  refine sr_iload_n (i := 1) (pc' := 6) dX3_takeRut_5 rfl rfl rfl ?_
  refine sr_if_ge (pc' := 9) (tgt := 11) dX3_takeRut_6 rfl rfl (fun c6 => ?_) (fun c6 => ?_)
  · refine sr_aload_n (i := 0) (pc' := 12) dX3_takeRut_11 rfl rfl rfl ?_
    refine sr_callV0_IM (pc' := 15) (rea_takeWidth_sp u1.2) dX3_takeRut_12 rfl mg_X3_takeWidth mi_X3_takeWidth (Or.inl ⟨3, _, TX3, 12, s88_25, rfl⟩) ⟨Nat.le_of_ble_eq_true rfl, Nat.le_of_ble_eq_true rfl⟩ w_251 (Nat.le_of_ble_eq_true rfl) (fun u2 hu2 hcu2 hzu2 => ?_)
    refine sr_istore_n (i := 2) (lv' := [some (vR 25), some (vI u1.1), some (vI u2.1), none]) (pc' := 16) dX3_takeRut_15 rfl rfl (by decide) rfl ?_
    refine sr_iload_n (i := 2) (pc' := 17) dX3_takeRut_16 rfl rfl rfl ?_
    refine sr_if_ge (pc' := 20) (tgt := 22) dX3_takeRut_17 rfl rfl (fun c17 => ?_) (fun c17 => ?_)
    · refine sr_aload_n (i := 0) (pc' := 23) dX3_takeRut_22 rfl rfl rfl ?_
      refine sr_iconst (pc' := 24) dX3_takeRut_23 rfl (by decide) ?_
      refine sr_bipush (pc' := 26) dX3_takeRut_24 rfl (by decide) (by decide) ?_
      refine sr_callV2_IM (pc' := 29) (rea_takeNumber_sp 0 99 u2.2) dX3_takeRut_26 rfl mg_X3_takeNumber mi_X3_takeNumber (Or.inl ⟨3, _, TX3, 12, s88_25, rfl⟩) ⟨Nat.le_of_ble_eq_true rfl, Nat.le_of_ble_eq_true rfl⟩ w_244 (Nat.le_of_ble_eq_true rfl) (fun u3 hu3 hcu3 hzu3 => ?_)
      refine sr_istore_n (i := 3) (lv' := [some (vR 25), some (vI u1.1), some (vI u2.1), some (vI u3.1)]) (pc' := 30) dX3_takeRut_29 rfl rfl (by decide) rfl ?_
      refine sr_iload_n (i := 3) (pc' := 31) dX3_takeRut_30 rfl rfl rfl ?_
      refine sr_if_ge (pc' := 34) (tgt := 36) dX3_takeRut_31 rfl rfl (fun c31 => ?_) (fun c31 => ?_)
      · refine sr_aload_n (i := 0) (pc' := 37) dX3_takeRut_36 rfl rfl rfl ?_
        refine sr_getR (k := 2) (b := 27) (pc' := 40) cls_X3 dX3_takeRut_37 rfl s88_25 rfl (by decide) w_227 ?_
        refine sr_getR (k := 3) (b := 31) (pc' := 43) cls_X4 dX3_takeRut_40 rfl isRoad_27.1 rfl (by decide) w_258 ?_
        refine sr_iload_n (i := 1) (pc' := 44) dX3_takeRut_43 rfl rfl rfl ?_
        refine sr_iload_n (i := 2) (pc' := 45) dX3_takeRut_44 rfl rfl rfl ?_
        refine sr_callSN2_I (pc' := 48) (ww_rut_sp u1.1 u2.1 u3.2) dX3_takeRut_45 rfl mg_X8_rut ms_X8_rut ⟨Nat.le_of_ble_eq_true rfl, Nat.le_of_ble_eq_true rfl⟩ w_256 (Nat.le_of_ble_eq_true rfl) (fun u4 hu4 hcu4 hzu4 => ?_)
        refine sr_iload_n (i := 3) (pc' := 49) dX3_takeRut_48 rfl rfl rfl ?_
        refine sr_callSN3_M (pc' := 52) (ww_put_sp isRoad_27.2.2.2.2.1 (by decide) u4 u3.1 u3.2) dX3_takeRut_49 rfl mg_X8_put ms_X8_put ⟨Nat.le_of_ble_eq_true rfl, Nat.le_of_ble_eq_true rfl⟩ w_257 (Nat.le_of_ble_eq_true rfl) (fun μ5 hμ5 => ?_)
        refine sr_aload_n (i := 0) (pc' := 53) dX3_takeRut_52 rfl rfl rfl ?_
        refine sr_dup (pc' := 54) dX3_takeRut_53 rfl rfl ?_
        refine sr_getL (k := 10) (pc' := 57) cls_X3 dX3_takeRut_54 rfl s88_25 rfl (by decide) w_226 ?_
        refine sr_lconst (x := 1) (pc' := 58) dX3_takeRut_57 rfl (by decide) rfl ?_
        refine sr_iload_n (i := 1) (pc' := 59) dX3_takeRut_58 rfl rfl rfl ?_
        refine sr_iload_n (i := 2) (pc' := 60) dX3_takeRut_59 rfl rfl rfl ?_
        refine sr_callSN2_I (pc' := 63) (ww_rut_sp u1.1 u2.1 μ5) dX3_takeRut_60 rfl mg_X8_rut ms_X8_rut ⟨Nat.le_of_ble_eq_true rfl, Nat.le_of_ble_eq_true rfl⟩ w_256 (Nat.le_of_ble_eq_true rfl) (fun u6 hu6 hcu6 hzu6 => ?_)
        refine sr_lshl (pc' := 64) dX3_takeRut_63 rfl ?_
        refine sr_lor (pc' := 65) dX3_takeRut_64 rfl ?_
        refine sr_putL (k := 10) (pc' := 68) cls_X3 dX3_takeRut_65 rfl s88_25 rfl (by decide) w_226 rfl rfl (fun μ7 hμ7 => ?_)
        refine sr_aload_n (i := 0) (pc' := 69) dX3_takeRut_68 rfl rfl rfl ?_
        refine sr_callV0_IM (pc' := 72) (rea_takeSign_sp μ7) dX3_takeRut_69 rfl mg_X3_takeSign mi_X3_takeSign (Or.inl ⟨3, _, TX3, 12, s88_25, rfl⟩) ⟨Nat.le_of_ble_eq_true rfl, Nat.le_of_ble_eq_true rfl⟩ w_245 (Nat.le_of_ble_eq_true rfl) (fun u8 hu8 hcu8 hzu8 => ?_)
        exact sr_iretZ dX3_takeRut_72 rfl (hzu8 rfl)  rfl
      · refine sr_iconst (pc' := 35) dX3_takeRut_34 rfl (by decide) ?_
        exact sr_iretZ dX3_takeRut_35 rfl (Or.inl rfl) rfl
    · refine sr_iconst (pc' := 21) dX3_takeRut_20 rfl (by decide) ?_
      exact sr_iretZ dX3_takeRut_21 rfl (Or.inl rfl) rfl
  · refine sr_iconst (pc' := 10) dX3_takeRut_9 rfl (by decide) ?_
    exact sr_iretZ dX3_takeRut_10 rfl (Or.inl rfl) rfl
def rea_takeFrost   (μ : Mem) : Option (Int × Mem) := (rea_takeNumber 1 60 μ).bind fun u1 => if 0 ≤ u1.1 then ((roa_isFrost 27 u1.2 u1.1).bind fun u2 => if u2 = 0 then ((roa_setFrost 27 u1.1 1 u1.2).bind fun μ3 => (rea_takeSign μ3).bind fun u4 => some (u4.1, u4.2)) else ((rea_refuse 4 (u1.2 25 6) u1.2).bind fun u5 => some (u5.1, u5.2))) else (some (0, u1.2))
theorem rea_takeFrost_sp {l : Launch} {G : Nv}   (μ : Mem) : SP l G S88 mX3_takeFrost [vR 25] μ (rea_takeFrost μ) jIM := by
  refine sp_go (lv := [some (vR 25), none]) pn_X3 (Nat.le_of_ble_eq_true rfl) rfl ?_
  unfold rea_takeFrost
  refine sr_aload_n (i := 0) (pc' := 1) dX3_takeFrost_0 rfl rfl rfl ?_
  refine sr_iconst (pc' := 2) dX3_takeFrost_1 rfl (by decide) ?_
  refine sr_bipush (pc' := 4) dX3_takeFrost_2 rfl (by decide) (by decide) ?_
  refine sr_callV2_IM (pc' := 7) (rea_takeNumber_sp 1 60 μ) dX3_takeFrost_4 rfl mg_X3_takeNumber mi_X3_takeNumber (Or.inl ⟨3, _, TX3, 12, s88_25, rfl⟩) ⟨Nat.le_of_ble_eq_true rfl, Nat.le_of_ble_eq_true rfl⟩ w_244 (Nat.le_of_ble_eq_true rfl) (fun u1 hu1 hcu1 hzu1 => ?_)
  refine sr_istore_n (i := 1) (lv' := [some (vR 25), some (vI u1.1)]) (pc' := 8) dX3_takeFrost_7 rfl rfl (by decide) rfl ?_
  refine sr_iload_n (i := 1) (pc' := 9) dX3_takeFrost_8 rfl rfl rfl ?_
  refine sr_if_ge (pc' := 12) (tgt := 14) dX3_takeFrost_9 rfl rfl (fun c9 => ?_) (fun c9 => ?_)
  · refine sr_aload_n (i := 0) (pc' := 15) dX3_takeFrost_14 rfl rfl rfl ?_
    refine sr_getR (k := 2) (b := 27) (pc' := 18) cls_X3 dX3_takeFrost_15 rfl s88_25 rfl (by decide) w_227 ?_
    refine sr_iload_n (i := 1) (pc' := 19) dX3_takeFrost_18 rfl rfl rfl ?_
    refine sr_callVN1_I (pc' := 22) (roa_isFrost_sp isRoad_27 u1.1 u1.2) dX3_takeFrost_19 rfl mg_X4_isFrost mi_X4_isFrost (Or.inl ⟨4, _, TX4, 12, isRoad_27.1, rfl⟩) ⟨Nat.le_of_ble_eq_true rfl, Nat.le_of_ble_eq_true rfl⟩ w_259 (Nat.le_of_ble_eq_true rfl) (fun u2 hu2 hcu2 hzu2 => ?_)
    refine sr_if_eq (pc' := 25) (tgt := 35) dX3_takeFrost_22 rfl rfl (fun c22 => ?_) (fun c22 => ?_)
    · refine sr_aload_n (i := 0) (pc' := 36) dX3_takeFrost_35 rfl rfl rfl ?_
      refine sr_getR (k := 2) (b := 27) (pc' := 39) cls_X3 dX3_takeFrost_36 rfl s88_25 rfl (by decide) w_227 ?_
      refine sr_iload_n (i := 1) (pc' := 40) dX3_takeFrost_39 rfl rfl rfl ?_
      refine sr_iconst (pc' := 41) dX3_takeFrost_40 rfl (by decide) ?_
      refine sr_callVN2_M (pc' := 44) (roa_setFrost_sp isRoad_27 u1.1 1 u1.2) dX3_takeFrost_41 rfl mg_X4_setFrost mi_X4_setFrost (Or.inl ⟨4, _, TX4, 12, isRoad_27.1, rfl⟩) ⟨Nat.le_of_ble_eq_true rfl, Nat.le_of_ble_eq_true rfl⟩ w_260 (Nat.le_of_ble_eq_true rfl) (fun μ3 hμ3 => ?_)
      refine sr_aload_n (i := 0) (pc' := 45) dX3_takeFrost_44 rfl rfl rfl ?_
      refine sr_callV0_IM (pc' := 48) (rea_takeSign_sp μ3) dX3_takeFrost_45 rfl mg_X3_takeSign mi_X3_takeSign (Or.inl ⟨3, _, TX3, 12, s88_25, rfl⟩) ⟨Nat.le_of_ble_eq_true rfl, Nat.le_of_ble_eq_true rfl⟩ w_245 (Nat.le_of_ble_eq_true rfl) (fun u4 hu4 hcu4 hzu4 => ?_)
      exact sr_iretZ dX3_takeFrost_48 rfl (hzu4 rfl)  rfl
    · refine sr_aload_n (i := 0) (pc' := 26) dX3_takeFrost_25 rfl rfl rfl ?_
      refine sr_iconst (pc' := 27) dX3_takeFrost_26 rfl (by decide) ?_
      refine sr_aload_n (i := 0) (pc' := 28) dX3_takeFrost_27 rfl rfl rfl ?_
      refine sr_getI (k := 6) (pc' := 31) cls_X3 dX3_takeFrost_28 rfl s88_25 rfl (by decide) w_223 ?_
      refine sr_callV2_IM (pc' := 34) (rea_refuse_sp 4 (u1.2 25 6) u1.2) dX3_takeFrost_31 rfl mg_X3_refuse mi_X3_refuse (Or.inl ⟨3, _, TX3, 12, s88_25, rfl⟩) ⟨Nat.le_of_ble_eq_true rfl, Nat.le_of_ble_eq_true rfl⟩ w_224 (Nat.le_of_ble_eq_true rfl) (fun u5 hu5 hcu5 hzu5 => ?_)
      exact sr_iretZ dX3_takeFrost_34 rfl (hzu5 rfl)  rfl
  · refine sr_iconst (pc' := 13) dX3_takeFrost_12 rfl (by decide) ?_
    exact sr_iretZ dX3_takeFrost_13 rfl (Or.inl rfl) rfl
def rea_kindNamed (μ : Mem)  : Option (Int) := (rea_isName 9 μ).bind fun u1 => if u1 = 0 then ((rea_isName 10 μ).bind fun u2 => if u2 = 0 then ((rea_isName 11 μ).bind fun u3 => if u3 = 0 then ((rea_isName 12 μ).bind fun u4 => if u4 = 0 then ((rea_isName 13 μ).bind fun u5 => if u5 = 0 then (some (-1)) else (some 4)) else (some 3)) else (some 2)) else (some 1)) else (some 0)
theorem rea_kindNamed_sp {l : Launch} {G : Nv}   (μ : Mem) : SP l G S88 mX3_kindNamed [vR 25] μ (rea_kindNamed μ) (jI μ) := by
  refine sp_go (lv := [some (vR 25)]) pn_X3 (Nat.le_of_ble_eq_true rfl) rfl ?_
  unfold rea_kindNamed
  refine sr_aload_n (i := 0) (pc' := 1) dX3_kindNamed_0 rfl rfl rfl ?_
  refine sr_ldcS (j := 9) (tx := "plain") (pc' := 3) dX3_kindNamed_1 rfl rfl (List.mem_of_getElem? (i := 9) rfl) ?_
  refine sr_callV1_I (pc' := 6) (rea_isName_sp (by decide) μ) dX3_kindNamed_3 rfl mg_X3_isName mi_X3_isName (Or.inl ⟨3, _, TX3, 12, s88_25, rfl⟩) ⟨Nat.le_of_ble_eq_true rfl, Nat.le_of_ble_eq_true rfl⟩ w_261 (Nat.le_of_ble_eq_true rfl) (fun u1 hu1 hcu1 hzu1 => ?_)
  refine sr_if_eq (pc' := 9) (tgt := 11) dX3_kindNamed_6 rfl rfl (fun c6 => ?_) (fun c6 => ?_)
  · refine sr_aload_n (i := 0) (pc' := 12) dX3_kindNamed_11 rfl rfl rfl ?_
    refine sr_ldcS (j := 10) (tx := "double") (pc' := 14) dX3_kindNamed_12 rfl rfl (List.mem_of_getElem? (i := 10) rfl) ?_
    refine sr_callV1_I (pc' := 17) (rea_isName_sp (by decide) μ) dX3_kindNamed_14 rfl mg_X3_isName mi_X3_isName (Or.inl ⟨3, _, TX3, 12, s88_25, rfl⟩) ⟨Nat.le_of_ble_eq_true rfl, Nat.le_of_ble_eq_true rfl⟩ w_261 (Nat.le_of_ble_eq_true rfl) (fun u2 hu2 hcu2 hzu2 => ?_)
    refine sr_if_eq (pc' := 20) (tgt := 22) dX3_kindNamed_17 rfl rfl (fun c17 => ?_) (fun c17 => ?_)
    · refine sr_aload_n (i := 0) (pc' := 23) dX3_kindNamed_22 rfl rfl rfl ?_
      refine sr_ldcS (j := 11) (tx := "sledge") (pc' := 25) dX3_kindNamed_23 rfl rfl (List.mem_of_getElem? (i := 11) rfl) ?_
      refine sr_callV1_I (pc' := 28) (rea_isName_sp (by decide) μ) dX3_kindNamed_25 rfl mg_X3_isName mi_X3_isName (Or.inl ⟨3, _, TX3, 12, s88_25, rfl⟩) ⟨Nat.le_of_ble_eq_true rfl, Nat.le_of_ble_eq_true rfl⟩ w_261 (Nat.le_of_ble_eq_true rfl) (fun u3 hu3 hcu3 hzu3 => ?_)
      refine sr_if_eq (pc' := 31) (tgt := 33) dX3_kindNamed_28 rfl rfl (fun c28 => ?_) (fun c28 => ?_)
      · refine sr_aload_n (i := 0) (pc' := 34) dX3_kindNamed_33 rfl rfl rfl ?_
        refine sr_ldcS (j := 12) (tx := "hired") (pc' := 36) dX3_kindNamed_34 rfl rfl (List.mem_of_getElem? (i := 12) rfl) ?_
        refine sr_callV1_I (pc' := 39) (rea_isName_sp (by decide) μ) dX3_kindNamed_36 rfl mg_X3_isName mi_X3_isName (Or.inl ⟨3, _, TX3, 12, s88_25, rfl⟩) ⟨Nat.le_of_ble_eq_true rfl, Nat.le_of_ble_eq_true rfl⟩ w_261 (Nat.le_of_ble_eq_true rfl) (fun u4 hu4 hcu4 hzu4 => ?_)
        refine sr_if_eq (pc' := 42) (tgt := 44) dX3_kindNamed_39 rfl rfl (fun c39 => ?_) (fun c39 => ?_)
        · refine sr_aload_n (i := 0) (pc' := 45) dX3_kindNamed_44 rfl rfl rfl ?_
          refine sr_ldcS (j := 13) (tx := "smuggler") (pc' := 47) dX3_kindNamed_45 rfl rfl (List.mem_of_getElem? (i := 13) rfl) ?_
          refine sr_callV1_I (pc' := 50) (rea_isName_sp (by decide) μ) dX3_kindNamed_47 rfl mg_X3_isName mi_X3_isName (Or.inl ⟨3, _, TX3, 12, s88_25, rfl⟩) ⟨Nat.le_of_ble_eq_true rfl, Nat.le_of_ble_eq_true rfl⟩ w_261 (Nat.le_of_ble_eq_true rfl) (fun u5 hu5 hcu5 hzu5 => ?_)
          refine sr_if_eq (pc' := 53) (tgt := 57) dX3_kindNamed_50 rfl rfl (fun c50 => ?_) (fun c50 => ?_)
          · refine sr_iconst (pc' := 58) dX3_kindNamed_57 rfl (by decide) ?_
            exact sr_iretI dX3_kindNamed_58 rfl rfl
          · refine sr_iconst (pc' := 54) dX3_kindNamed_53 rfl (by decide) ?_
            refine sr_goto (pc' := 58) dX3_kindNamed_54 rfl ?_
            exact sr_iretI dX3_kindNamed_58 rfl rfl
        · refine sr_iconst (pc' := 43) dX3_kindNamed_42 rfl (by decide) ?_
          exact sr_iretI dX3_kindNamed_43 rfl rfl
      · refine sr_iconst (pc' := 32) dX3_kindNamed_31 rfl (by decide) ?_
        exact sr_iretI dX3_kindNamed_32 rfl rfl
    · refine sr_iconst (pc' := 21) dX3_kindNamed_20 rfl (by decide) ?_
      exact sr_iretI dX3_kindNamed_21 rfl rfl
  · refine sr_iconst (pc' := 10) dX3_kindNamed_9 rfl (by decide) ?_
    exact sr_iretI dX3_kindNamed_10 rfl rfl
def rea_takeCart_161  (k70 : Int → Int → Mem → Option (Int × Mem)) (x2 x3 x5 : Int) (μ : Mem) : Option (Int × Mem) := (roa_swapPart 27 x2 x3 x5 μ).bind fun u1 => k70 x2 (wI (x3 + 1)) u1.2
theorem rea_takeCart_161_s {l : Launch} {G : Nv}   {k70 : Int → Int → Mem → Option (Int × Mem)} (hk70 : ∀ (x2 x3 : Int) (μ : Mem) , SR l G S88 mX3_takeCart (k70 x2 x3 μ) jIM 70 [some (vR 25), none, some (vI x2), some (vI x3), none, none] [] μ) : ∀ (x2 x3 x5 : Int) (μ : Mem), SR l G S88 mX3_takeCart (rea_takeCart_161 k70 x2 x3 x5 μ) jIM 161 [some (vR 25), none, some (vI x2), some (vI x3), none, some (vI x5)] [] μ := by
  intro x2 x3 x5 μ
  unfold rea_takeCart_161
  refine sr_aload_n (i := 0) (pc' := 162) dX3_takeCart_161 rfl rfl rfl ?_
  refine sr_getR (k := 2) (b := 27) (pc' := 165) cls_X3 dX3_takeCart_162 rfl s88_25 rfl (by decide) w_227 ?_
  refine sr_iload_n (i := 2) (pc' := 166) dX3_takeCart_165 rfl rfl rfl ?_
  refine sr_iload_n (i := 3) (pc' := 167) dX3_takeCart_166 rfl rfl rfl ?_
  refine sr_iload (pc' := 169) dX3_takeCart_167 rfl rfl ?_
  refine sr_callVN3_IM (pc' := 172) (roa_swapPart_sp isRoad_27 x2 x3 x5 μ) dX3_takeCart_169 rfl mg_X4_swapPart mi_X4_swapPart (Or.inl ⟨4, _, TX4, 12, isRoad_27.1, rfl⟩) ⟨Nat.le_of_ble_eq_true rfl, Nat.le_of_ble_eq_true rfl⟩ w_262 (Nat.le_of_ble_eq_true rfl) (fun u1 hu1 hcu1 hzu1 => ?_)
  refine sr_pop (pc' := 173) dX3_takeCart_172 rfl rfl ?_
  refine sr_iinc (lv' := [some (vR 25), none, some (vI x2), some (vI (wI (x3 + 1))), none, some (vI x5)]) (pc' := 176) dX3_takeCart_173 rfl (by decide) rfl rfl ?_
  refine sr_goto (pc' := 70) dX3_takeCart_176 rfl ?_
  refine sr_fgt (fgt_s (fgt_s (fgt_s (fgt_s (fgt_s (fgt_n fgt_nil)))))) ?_
  exact hk70 x2 (wI (x3 + 1)) u1.2
def rea_takeCart_123  (k70 : Int → Int → Mem → Option (Int × Mem)) (x2 x3 s0 : Int) (μ : Mem) : Option (Int × Mem) := if 0 ≤ s0 then (if x3 = 5 then ((roa_part 27 μ x2 4).bind fun u1 => if s0 = u1 then ((rea_refuse 4 (μ 25 6) μ).bind fun u2 => some (u2.1, u2.2)) else (rea_takeCart_161 k70 x2 x3 s0 μ)) else (rea_takeCart_161 k70 x2 x3 s0 μ)) else (some (0, μ))
theorem rea_takeCart_123_s {l : Launch} {G : Nv}   {k70 : Int → Int → Mem → Option (Int × Mem)} (hk70 : ∀ (x2 x3 : Int) (μ : Mem) , SR l G S88 mX3_takeCart (k70 x2 x3 μ) jIM 70 [some (vR 25), none, some (vI x2), some (vI x3), none, none] [] μ) : ∀ (x2 x3 s0 : Int) (μ : Mem), SR l G S88 mX3_takeCart (rea_takeCart_123 k70 x2 x3 s0 μ) jIM 123 [some (vR 25), none, some (vI x2), some (vI x3), none, none] [vI s0] μ := by
  intro x2 x3 s0 μ
  unfold rea_takeCart_123
  refine sr_istore (lv' := [some (vR 25), none, some (vI x2), some (vI x3), none, some (vI s0)]) (pc' := 125) dX3_takeCart_123 rfl (by decide) rfl ?_
  refine sr_iload (pc' := 127) dX3_takeCart_125 rfl rfl ?_
  refine sr_if_ge (pc' := 130) (tgt := 132) dX3_takeCart_127 rfl rfl (fun c127 => ?_) (fun c127 => ?_)
  · refine sr_iload_n (i := 3) (pc' := 133) dX3_takeCart_132 rfl rfl rfl ?_
    refine sr_iconst (pc' := 134) dX3_takeCart_133 rfl (by decide) ?_
    refine sr_icmp_ne (pc' := 137) (tgt := 161) dX3_takeCart_134 rfl rfl (fun c134 => ?_) (fun c134 => ?_)
    · refine sr_iload (pc' := 139) dX3_takeCart_137 rfl rfl ?_
      refine sr_aload_n (i := 0) (pc' := 140) dX3_takeCart_139 rfl rfl rfl ?_
      refine sr_getR (k := 2) (b := 27) (pc' := 143) cls_X3 dX3_takeCart_140 rfl s88_25 rfl (by decide) w_227 ?_
      refine sr_iload_n (i := 2) (pc' := 144) dX3_takeCart_143 rfl rfl rfl ?_
      refine sr_iconst (pc' := 145) dX3_takeCart_144 rfl (by decide) ?_
      refine sr_callVN2_I (pc' := 148) (roa_part_sp isRoad_27 x2 4 μ) dX3_takeCart_145 rfl mg_X4_part mi_X4_part (Or.inl ⟨4, _, TX4, 12, isRoad_27.1, rfl⟩) ⟨Nat.le_of_ble_eq_true rfl, Nat.le_of_ble_eq_true rfl⟩ w_263 (Nat.le_of_ble_eq_true rfl) (fun u1 hu1 hcu1 hzu1 => ?_)
      refine sr_icmp_ne (pc' := 151) (tgt := 161) dX3_takeCart_148 rfl rfl (fun c148 => ?_) (fun c148 => ?_)
      · refine sr_aload_n (i := 0) (pc' := 152) dX3_takeCart_151 rfl rfl rfl ?_
        refine sr_iconst (pc' := 153) dX3_takeCart_152 rfl (by decide) ?_
        refine sr_aload_n (i := 0) (pc' := 154) dX3_takeCart_153 rfl rfl rfl ?_
        refine sr_getI (k := 6) (pc' := 157) cls_X3 dX3_takeCart_154 rfl s88_25 rfl (by decide) w_223 ?_
        refine sr_callV2_IM (pc' := 160) (rea_refuse_sp 4 (μ 25 6) μ) dX3_takeCart_157 rfl mg_X3_refuse mi_X3_refuse (Or.inl ⟨3, _, TX3, 12, s88_25, rfl⟩) ⟨Nat.le_of_ble_eq_true rfl, Nat.le_of_ble_eq_true rfl⟩ w_224 (Nat.le_of_ble_eq_true rfl) (fun u2 hu2 hcu2 hzu2 => ?_)
        exact sr_iretZ dX3_takeCart_160 rfl (hzu2 rfl)  rfl
      · exact rea_takeCart_161_s hk70 x2 x3 s0 μ
    · exact rea_takeCart_161_s hk70 x2 x3 s0 μ
  · refine sr_iconst (pc' := 131) dX3_takeCart_130 rfl (by decide) ?_
    exact sr_iretZ dX3_takeCart_131 rfl (Or.inl rfl) rfl
def rea_takeCart_91  (k70 : Int → Int → Mem → Option (Int × Mem)) (x2 x3 s0 : Int) (μ : Mem) : Option (Int × Mem) := if s0 = 0 then ((ww_atR ([0, 0, 1, 0, 0, 0, 0]) 90 μ x3).bind fun u1 => (ww_atR ([4, 2, 9, 30, 20, 20, 20]) 91 μ x3).bind fun u2 => (rea_takeNumber u1 u2 μ).bind fun u3 => rea_takeCart_123 k70 x2 x3 u3.1 u3.2) else ((rea_takeYard μ).bind fun u4 => rea_takeCart_123 k70 x2 x3 u4.1 u4.2)
theorem rea_takeCart_91_s {l : Launch} {G : Nv}   {k70 : Int → Int → Mem → Option (Int × Mem)} (hk70 : ∀ (x2 x3 : Int) (μ : Mem) , SR l G S88 mX3_takeCart (k70 x2 x3 μ) jIM 70 [some (vR 25), none, some (vI x2), some (vI x3), none, none] [] μ) : ∀ (x2 x3 s0 : Int) (μ : Mem), SR l G S88 mX3_takeCart (rea_takeCart_91 k70 x2 x3 s0 μ) jIM 91 [some (vR 25), none, some (vI x2), some (vI x3), none, none] [vI s0] μ := by
  intro x2 x3 s0 μ
  unfold rea_takeCart_91
  refine sr_istore (lv' := [some (vR 25), none, some (vI x2), some (vI x3), some (vI s0), none]) (pc' := 93) dX3_takeCart_91 rfl (by decide) rfl ?_
  refine sr_iload (pc' := 95) dX3_takeCart_93 rfl rfl ?_
  refine sr_if_eq (pc' := 98) (tgt := 105) dX3_takeCart_95 rfl rfl (fun c95 => ?_) (fun c95 => ?_)
  · refine sr_aload_n (i := 0) (pc' := 106) dX3_takeCart_105 rfl rfl rfl ?_
    refine sr_getsN (v := vR 90) (pc' := 109) dX3_takeCart_106 rfl (List.mem_of_getElem? (i := 0) rfl) trivial w_264 ?_
    refine sr_iload_n (i := 3) (pc' := 110) dX3_takeCart_109 rfl rfl rfl ?_
    refine sr_callSN2_I (pc' := 113) (ww_atR_sp (by decide) (by decide) (by decide) x3 μ) dX3_takeCart_110 rfl mg_X8_at ms_X8_at ⟨Nat.le_of_ble_eq_true rfl, Nat.le_of_ble_eq_true rfl⟩ w_265 (Nat.le_of_ble_eq_true rfl) (fun u1 hu1 hcu1 hzu1 => ?_)
    refine sr_getsN (v := vR 91) (pc' := 116) dX3_takeCart_113 rfl (List.mem_of_getElem? (i := 1) rfl) trivial w_266 ?_
    refine sr_iload_n (i := 3) (pc' := 117) dX3_takeCart_116 rfl rfl rfl ?_
    refine sr_callSN2_I (pc' := 120) (ww_atR_sp (by decide) (by decide) (by decide) x3 μ) dX3_takeCart_117 rfl mg_X8_at ms_X8_at ⟨Nat.le_of_ble_eq_true rfl, Nat.le_of_ble_eq_true rfl⟩ w_265 (Nat.le_of_ble_eq_true rfl) (fun u2 hu2 hcu2 hzu2 => ?_)
    refine sr_callV2_IM (pc' := 123) (rea_takeNumber_sp u1 u2 μ) dX3_takeCart_120 rfl mg_X3_takeNumber mi_X3_takeNumber (Or.inl ⟨3, _, TX3, 12, s88_25, rfl⟩) ⟨Nat.le_of_ble_eq_true rfl, Nat.le_of_ble_eq_true rfl⟩ w_244 (Nat.le_of_ble_eq_true rfl) (fun u3 hu3 hcu3 hzu3 => ?_)
    refine sr_fgt (fgt_s (fgt_s (fgt_s (fgt_s (fgt_n (fgt_s fgt_nil)))))) ?_
    exact rea_takeCart_123_s hk70 x2 x3 u3.1 u3.2
  · refine sr_aload_n (i := 0) (pc' := 99) dX3_takeCart_98 rfl rfl rfl ?_
    refine sr_callV0_IM (pc' := 102) (rea_takeYard_sp μ) dX3_takeCart_99 rfl mg_X3_takeYard mi_X3_takeYard (Or.inl ⟨3, _, TX3, 12, s88_25, rfl⟩) ⟨Nat.le_of_ble_eq_true rfl, Nat.le_of_ble_eq_true rfl⟩ w_247 (Nat.le_of_ble_eq_true rfl) (fun u4 hu4 hcu4 hzu4 => ?_)
    refine sr_goto (pc' := 123) dX3_takeCart_102 rfl ?_
    refine sr_fgt (fgt_s (fgt_s (fgt_s (fgt_s (fgt_n (fgt_s fgt_nil)))))) ?_
    exact rea_takeCart_123_s hk70 x2 x3 u4.1 u4.2
def rea_takeCart_70   : Nat → Int → Int → Mem → Option (Int × Mem)
  | 0, _, _, _ => none
  | n + 1, x2, x3, μ => if 6 < x3 then (bnd (mset μ 27 10 (wI ((μ 27 10) + 1))) fun μ1 => (rea_takeSign μ1).bind fun u2 => some (u2.1, u2.2)) else (if x3 = 4 then (rea_takeCart_91 (rea_takeCart_70 n) x2 x3 1 μ) else (if x3 = 5 then (rea_takeCart_91 (rea_takeCart_70 n) x2 x3 1 μ) else (rea_takeCart_91 (rea_takeCart_70 n) x2 x3 0 μ)))
theorem rea_takeCart_70_s {l : Launch} {G : Nv}     : ∀ (n : Nat) (x2 x3 : Int) (μ : Mem), SR l G S88 mX3_takeCart (rea_takeCart_70 n x2 x3 μ) jIM 70 [some (vR 25), none, some (vI x2), some (vI x3), none, none] [] μ := by
  intro n
  induction n with
  | zero => intro x2 x3 μ; exact sr_none
  | succ n ih =>
    intro x2 x3 μ
    rw [rea_takeCart_70.eq_2]
    refine sr_iload_n (i := 3) (pc' := 71) dX3_takeCart_70 rfl rfl rfl ?_
    refine sr_bipush (pc' := 73) dX3_takeCart_71 rfl (by decide) (by decide) ?_
    refine sr_icmp_gt (pc' := 76) (tgt := 179) dX3_takeCart_73 rfl rfl (fun c73 => ?_) (fun c73 => ?_)
    · refine sr_aload_n (i := 0) (pc' := 180) dX3_takeCart_179 rfl rfl rfl ?_
      refine sr_getR (k := 2) (b := 27) (pc' := 183) cls_X3 dX3_takeCart_180 rfl s88_25 rfl (by decide) w_227 ?_
      refine sr_dup (pc' := 184) dX3_takeCart_183 rfl rfl ?_
      refine sr_getI (k := 10) (pc' := 187) cls_X4 dX3_takeCart_184 rfl isRoad_27.1 rfl (by decide) w_267 ?_
      refine sr_iconst (pc' := 188) dX3_takeCart_187 rfl (by decide) ?_
      refine sr_iadd (pc' := 189) dX3_takeCart_188 rfl ?_
      refine sr_putI (k := 10) (pc' := 192) cls_X4 dX3_takeCart_189 rfl isRoad_27.1 rfl (by decide) w_267 rfl rfl (fun μ1 hμ1 => ?_)
      refine sr_aload_n (i := 0) (pc' := 193) dX3_takeCart_192 rfl rfl rfl ?_
      refine sr_callV0_IM (pc' := 196) (rea_takeSign_sp μ1) dX3_takeCart_193 rfl mg_X3_takeSign mi_X3_takeSign (Or.inl ⟨3, _, TX3, 12, s88_25, rfl⟩) ⟨Nat.le_of_ble_eq_true rfl, Nat.le_of_ble_eq_true rfl⟩ w_245 (Nat.le_of_ble_eq_true rfl) (fun u2 hu2 hcu2 hzu2 => ?_)
      exact sr_iretZ dX3_takeCart_196 rfl (hzu2 rfl)  rfl
    · refine sr_iload_n (i := 3) (pc' := 77) dX3_takeCart_76 rfl rfl rfl ?_
      refine sr_iconst (pc' := 78) dX3_takeCart_77 rfl (by decide) ?_
      refine sr_icmp_eq (pc' := 81) (tgt := 86) dX3_takeCart_78 rfl rfl (fun c78 => ?_) (fun c78 => ?_)
      · refine sr_iconst (pc' := 87) dX3_takeCart_86 rfl (by decide) ?_
        refine sr_goto (pc' := 91) dX3_takeCart_87 rfl ?_
        exact rea_takeCart_91_s ih x2 x3 1 μ
      · refine sr_iload_n (i := 3) (pc' := 82) dX3_takeCart_81 rfl rfl rfl ?_
        refine sr_iconst (pc' := 83) dX3_takeCart_82 rfl (by decide) ?_
        refine sr_icmp_ne (pc' := 86) (tgt := 90) dX3_takeCart_83 rfl rfl (fun c83 => ?_) (fun c83 => ?_)
        · refine sr_iconst (pc' := 87) dX3_takeCart_86 rfl (by decide) ?_
          refine sr_goto (pc' := 91) dX3_takeCart_87 rfl ?_
          exact rea_takeCart_91_s ih x2 x3 1 μ
        · refine sr_iconst (pc' := 91) dX3_takeCart_90 rfl (by decide) ?_
          exact rea_takeCart_91_s ih x2 x3 0 μ
def rea_takeCart   (μ : Mem) : Option (Int × Mem) := if (μ 27 10) < 5 then ((rea_takeToken μ).bind fun u1 => if u1.1 = 0 then (some (0, u1.2)) else ((rea_kindNamed u1.2).bind fun u2 => if 0 ≤ u2 then (bnd (u1.2 27 10) fun v3 => (roa_swapPart 27 v3 0 u2 u1.2).bind fun u4 => rea_takeCart_70 BIG v3 1 u4.2) else ((rea_refuse 2 (u1.2 25 6) u1.2).bind fun u5 => some (u5.1, u5.2)))) else ((rea_refuse 5 (μ 25 6) μ).bind fun u6 => some (u6.1, u6.2))
theorem rea_takeCart_sp {l : Launch} {G : Nv}   (μ : Mem) : SP l G S88 mX3_takeCart [vR 25] μ (rea_takeCart μ) jIM := by
  refine sp_go (lv := [some (vR 25), none, none, none, none, none]) pn_X3 (Nat.le_of_ble_eq_true rfl) rfl ?_
  unfold rea_takeCart
  refine sr_aload_n (i := 0) (pc' := 1) dX3_takeCart_0 rfl rfl rfl ?_
  refine sr_getR (k := 2) (b := 27) (pc' := 4) cls_X3 dX3_takeCart_1 rfl s88_25 rfl (by decide) w_227 ?_
  refine sr_getI (k := 10) (pc' := 7) cls_X4 dX3_takeCart_4 rfl isRoad_27.1 rfl (by decide) w_267 ?_
  refine sr_iconst (pc' := 8) dX3_takeCart_7 rfl (by decide) ?_
  refine sr_icmp_lt (pc' := 11) (tgt := 21) dX3_takeCart_8 rfl rfl (fun c8 => ?_) (fun c8 => ?_)
  · refine sr_aload_n (i := 0) (pc' := 22) dX3_takeCart_21 rfl rfl rfl ?_
    refine sr_callV0_IM (pc' := 25) (rea_takeToken_sp μ) dX3_takeCart_22 rfl mg_X3_takeToken mi_X3_takeToken (Or.inl ⟨3, _, TX3, 12, s88_25, rfl⟩) ⟨Nat.le_of_ble_eq_true rfl, Nat.le_of_ble_eq_true rfl⟩ w_242 (Nat.le_of_ble_eq_true rfl) (fun u1 hu1 hcu1 hzu1 => ?_)
    refine sr_if_ne (pc' := 28) (tgt := 30) dX3_takeCart_25 rfl rfl (fun c25 => ?_) (fun c25 => ?_)
    · refine sr_iconst (pc' := 29) dX3_takeCart_28 rfl (by decide) ?_
      exact sr_iretZ dX3_takeCart_29 rfl (Or.inl rfl) rfl
    · refine sr_aload_n (i := 0) (pc' := 31) dX3_takeCart_30 rfl rfl rfl ?_
      refine sr_callV0_I (pc' := 34) (rea_kindNamed_sp u1.2) dX3_takeCart_31 rfl mg_X3_kindNamed mi_X3_kindNamed (Or.inl ⟨3, _, TX3, 12, s88_25, rfl⟩) ⟨Nat.le_of_ble_eq_true rfl, Nat.le_of_ble_eq_true rfl⟩ w_268 (Nat.le_of_ble_eq_true rfl) (fun u2 hu2 hcu2 hzu2 => ?_)
      refine sr_istore_n (i := 1) (lv' := [some (vR 25), some (vI u2), none, none, none, none]) (pc' := 35) dX3_takeCart_34 rfl rfl (by decide) rfl ?_
      refine sr_iload_n (i := 1) (pc' := 36) dX3_takeCart_35 rfl rfl rfl ?_
      refine sr_if_ge (pc' := 39) (tgt := 49) dX3_takeCart_36 rfl rfl (fun c36 => ?_) (fun c36 => ?_)
      · refine sr_aload_n (i := 0) (pc' := 50) dX3_takeCart_49 rfl rfl rfl ?_
        refine sr_getR (k := 2) (b := 27) (pc' := 53) cls_X3 dX3_takeCart_50 rfl s88_25 rfl (by decide) w_227 ?_
        refine sr_getI (k := 10) (pc' := 56) cls_X4 dX3_takeCart_53 rfl isRoad_27.1 rfl (by decide) w_267 ?_
        refine sr_bnd (fun v3 hv3 => ?_)
        refine sr_istore_n (i := 2) (lv' := [some (vR 25), some (vI u2), some (vI v3), none, none, none]) (pc' := 57) dX3_takeCart_56 rfl rfl (by decide) rfl ?_
        refine sr_aload_n (i := 0) (pc' := 58) dX3_takeCart_57 rfl rfl rfl ?_
        refine sr_getR (k := 2) (b := 27) (pc' := 61) cls_X3 dX3_takeCart_58 rfl s88_25 rfl (by decide) w_227 ?_
        refine sr_iload_n (i := 2) (pc' := 62) dX3_takeCart_61 rfl rfl rfl ?_
        refine sr_iconst (pc' := 63) dX3_takeCart_62 rfl (by decide) ?_
        refine sr_iload_n (i := 1) (pc' := 64) dX3_takeCart_63 rfl rfl rfl ?_
        refine sr_callVN3_IM (pc' := 67) (roa_swapPart_sp isRoad_27 v3 0 u2 u1.2) dX3_takeCart_64 rfl mg_X4_swapPart mi_X4_swapPart (Or.inl ⟨4, _, TX4, 12, isRoad_27.1, rfl⟩) ⟨Nat.le_of_ble_eq_true rfl, Nat.le_of_ble_eq_true rfl⟩ w_262 (Nat.le_of_ble_eq_true rfl) (fun u4 hu4 hcu4 hzu4 => ?_)
        refine sr_pop (pc' := 68) dX3_takeCart_67 rfl rfl ?_
        refine sr_iconst (pc' := 69) dX3_takeCart_68 rfl (by decide) ?_
        refine sr_istore_n (i := 3) (lv' := [some (vR 25), some (vI u2), some (vI v3), some (vI 1), none, none]) (pc' := 70) dX3_takeCart_69 rfl rfl (by decide) rfl ?_
        refine sr_fgt (fgt_s (fgt_n (fgt_s (fgt_s (fgt_s (fgt_s fgt_nil)))))) ?_
        exact rea_takeCart_70_s BIG v3 1 u4.2
      · refine sr_aload_n (i := 0) (pc' := 40) dX3_takeCart_39 rfl rfl rfl ?_
        refine sr_iconst (pc' := 41) dX3_takeCart_40 rfl (by decide) ?_
        refine sr_aload_n (i := 0) (pc' := 42) dX3_takeCart_41 rfl rfl rfl ?_
        refine sr_getI (k := 6) (pc' := 45) cls_X3 dX3_takeCart_42 rfl s88_25 rfl (by decide) w_223 ?_
        refine sr_callV2_IM (pc' := 48) (rea_refuse_sp 2 (u1.2 25 6) u1.2) dX3_takeCart_45 rfl mg_X3_refuse mi_X3_refuse (Or.inl ⟨3, _, TX3, 12, s88_25, rfl⟩) ⟨Nat.le_of_ble_eq_true rfl, Nat.le_of_ble_eq_true rfl⟩ w_224 (Nat.le_of_ble_eq_true rfl) (fun u5 hu5 hcu5 hzu5 => ?_)
        exact sr_iretZ dX3_takeCart_48 rfl (hzu5 rfl)  rfl
  · refine sr_aload_n (i := 0) (pc' := 12) dX3_takeCart_11 rfl rfl rfl ?_
    refine sr_iconst (pc' := 13) dX3_takeCart_12 rfl (by decide) ?_
    refine sr_aload_n (i := 0) (pc' := 14) dX3_takeCart_13 rfl rfl rfl ?_
    refine sr_getI (k := 6) (pc' := 17) cls_X3 dX3_takeCart_14 rfl s88_25 rfl (by decide) w_223 ?_
    refine sr_callV2_IM (pc' := 20) (rea_refuse_sp 5 (μ 25 6) μ) dX3_takeCart_17 rfl mg_X3_refuse mi_X3_refuse (Or.inl ⟨3, _, TX3, 12, s88_25, rfl⟩) ⟨Nat.le_of_ble_eq_true rfl, Nat.le_of_ble_eq_true rfl⟩ w_224 (Nat.le_of_ble_eq_true rfl) (fun u6 hu6 hcu6 hzu6 => ?_)
    exact sr_iretZ dX3_takeCart_20 rfl (hzu6 rfl)  rfl
def rea_takeCost   (μ : Mem) : Option (Int × Mem) := (rea_takeNumber 1 7 μ).bind fun u1 => if 0 ≤ u1.1 then (if (iAnd (iShr (u1.2 25 9) u1.1) 1) = 0 then ((rea_takeNumber 0 60 u1.2).bind fun u2 => if 0 ≤ u2.1 then ((ww_put 33 8 u1.1 u2.1 u2.2).bind fun μ3 => bnd (mset μ3 25 9 (iOr (μ3 25 9) (iShl 1 u1.1))) fun μ4 => (rea_takeSign μ4).bind fun u5 => some (u5.1, u5.2)) else (some (0, u2.2))) else ((rea_refuse 4 (u1.2 25 6) u1.2).bind fun u6 => some (u6.1, u6.2))) else (some (0, u1.2))
theorem rea_takeCost_sp {l : Launch} {G : Nv}   (μ : Mem) : SP l G S88 mX3_takeCost [vR 25] μ (rea_takeCost μ) jIM := by
  refine sp_go (lv := [some (vR 25), none, none]) pn_X3 (Nat.le_of_ble_eq_true rfl) rfl ?_
  unfold rea_takeCost
  refine sr_aload_n (i := 0) (pc' := 1) dX3_takeCost_0 rfl rfl rfl ?_
  refine sr_iconst (pc' := 2) dX3_takeCost_1 rfl (by decide) ?_
  refine sr_bipush (pc' := 4) dX3_takeCost_2 rfl (by decide) (by decide) ?_
  refine sr_callV2_IM (pc' := 7) (rea_takeNumber_sp 1 7 μ) dX3_takeCost_4 rfl mg_X3_takeNumber mi_X3_takeNumber (Or.inl ⟨3, _, TX3, 12, s88_25, rfl⟩) ⟨Nat.le_of_ble_eq_true rfl, Nat.le_of_ble_eq_true rfl⟩ w_244 (Nat.le_of_ble_eq_true rfl) (fun u1 hu1 hcu1 hzu1 => ?_)
  refine sr_istore_n (i := 1) (lv' := [some (vR 25), some (vI u1.1), none]) (pc' := 8) dX3_takeCost_7 rfl rfl (by decide) rfl ?_
  refine sr_iload_n (i := 1) (pc' := 9) dX3_takeCost_8 rfl rfl rfl ?_
  refine sr_if_ge (pc' := 12) (tgt := 14) dX3_takeCost_9 rfl rfl (fun c9 => ?_) (fun c9 => ?_)
  · refine sr_aload_n (i := 0) (pc' := 15) dX3_takeCost_14 rfl rfl rfl ?_
    refine sr_getI (k := 9) (pc' := 18) cls_X3 dX3_takeCost_15 rfl s88_25 rfl (by decide) w_269 ?_
    refine sr_iload_n (i := 1) (pc' := 19) dX3_takeCost_18 rfl rfl rfl ?_
    refine sr_ishr (pc' := 20) dX3_takeCost_19 rfl ?_
    refine sr_iconst (pc' := 21) dX3_takeCost_20 rfl (by decide) ?_
    refine sr_iand (pc' := 22) dX3_takeCost_21 rfl ?_
    refine sr_if_eq (pc' := 25) (tgt := 35) dX3_takeCost_22 rfl rfl (fun c22 => ?_) (fun c22 => ?_)
    · refine sr_aload_n (i := 0) (pc' := 36) dX3_takeCost_35 rfl rfl rfl ?_
      refine sr_iconst (pc' := 37) dX3_takeCost_36 rfl (by decide) ?_
      refine sr_bipush (pc' := 39) dX3_takeCost_37 rfl (by decide) (by decide) ?_
      refine sr_callV2_IM (pc' := 42) (rea_takeNumber_sp 0 60 u1.2) dX3_takeCost_39 rfl mg_X3_takeNumber mi_X3_takeNumber (Or.inl ⟨3, _, TX3, 12, s88_25, rfl⟩) ⟨Nat.le_of_ble_eq_true rfl, Nat.le_of_ble_eq_true rfl⟩ w_244 (Nat.le_of_ble_eq_true rfl) (fun u2 hu2 hcu2 hzu2 => ?_)
      refine sr_istore_n (i := 2) (lv' := [some (vR 25), some (vI u1.1), some (vI u2.1)]) (pc' := 43) dX3_takeCost_42 rfl rfl (by decide) rfl ?_
      refine sr_iload_n (i := 2) (pc' := 44) dX3_takeCost_43 rfl rfl rfl ?_
      refine sr_if_ge (pc' := 47) (tgt := 49) dX3_takeCost_44 rfl rfl (fun c44 => ?_) (fun c44 => ?_)
      · refine sr_aload_n (i := 0) (pc' := 50) dX3_takeCost_49 rfl rfl rfl ?_
        refine sr_getR (k := 2) (b := 27) (pc' := 53) cls_X3 dX3_takeCost_50 rfl s88_25 rfl (by decide) w_227 ?_
        refine sr_getR (k := 5) (b := 33) (pc' := 56) cls_X4 dX3_takeCost_53 rfl isRoad_27.1 rfl (by decide) w_270 ?_
        refine sr_iload_n (i := 1) (pc' := 57) dX3_takeCost_56 rfl rfl rfl ?_
        refine sr_iload_n (i := 2) (pc' := 58) dX3_takeCost_57 rfl rfl rfl ?_
        refine sr_callSN3_M (pc' := 61) (ww_put_sp isRoad_27.2.2.2.2.2.2.1 (by decide) u1.1 u2.1 u2.2) dX3_takeCost_58 rfl mg_X8_put ms_X8_put ⟨Nat.le_of_ble_eq_true rfl, Nat.le_of_ble_eq_true rfl⟩ w_257 (Nat.le_of_ble_eq_true rfl) (fun μ3 hμ3 => ?_)
        refine sr_aload_n (i := 0) (pc' := 62) dX3_takeCost_61 rfl rfl rfl ?_
        refine sr_dup (pc' := 63) dX3_takeCost_62 rfl rfl ?_
        refine sr_getI (k := 9) (pc' := 66) cls_X3 dX3_takeCost_63 rfl s88_25 rfl (by decide) w_269 ?_
        refine sr_iconst (pc' := 67) dX3_takeCost_66 rfl (by decide) ?_
        refine sr_iload_n (i := 1) (pc' := 68) dX3_takeCost_67 rfl rfl rfl ?_
        refine sr_ishl (pc' := 69) dX3_takeCost_68 rfl ?_
        refine sr_ior (pc' := 70) dX3_takeCost_69 rfl ?_
        refine sr_putI (k := 9) (pc' := 73) cls_X3 dX3_takeCost_70 rfl s88_25 rfl (by decide) w_269 rfl rfl (fun μ4 hμ4 => ?_)
        refine sr_aload_n (i := 0) (pc' := 74) dX3_takeCost_73 rfl rfl rfl ?_
        refine sr_callV0_IM (pc' := 77) (rea_takeSign_sp μ4) dX3_takeCost_74 rfl mg_X3_takeSign mi_X3_takeSign (Or.inl ⟨3, _, TX3, 12, s88_25, rfl⟩) ⟨Nat.le_of_ble_eq_true rfl, Nat.le_of_ble_eq_true rfl⟩ w_245 (Nat.le_of_ble_eq_true rfl) (fun u5 hu5 hcu5 hzu5 => ?_)
        exact sr_iretZ dX3_takeCost_77 rfl (hzu5 rfl)  rfl
      · refine sr_iconst (pc' := 48) dX3_takeCost_47 rfl (by decide) ?_
        exact sr_iretZ dX3_takeCost_48 rfl (Or.inl rfl) rfl
    · refine sr_aload_n (i := 0) (pc' := 26) dX3_takeCost_25 rfl rfl rfl ?_
      refine sr_iconst (pc' := 27) dX3_takeCost_26 rfl (by decide) ?_
      refine sr_aload_n (i := 0) (pc' := 28) dX3_takeCost_27 rfl rfl rfl ?_
      refine sr_getI (k := 6) (pc' := 31) cls_X3 dX3_takeCost_28 rfl s88_25 rfl (by decide) w_223 ?_
      refine sr_callV2_IM (pc' := 34) (rea_refuse_sp 4 (u1.2 25 6) u1.2) dX3_takeCost_31 rfl mg_X3_refuse mi_X3_refuse (Or.inl ⟨3, _, TX3, 12, s88_25, rfl⟩) ⟨Nat.le_of_ble_eq_true rfl, Nat.le_of_ble_eq_true rfl⟩ w_224 (Nat.le_of_ble_eq_true rfl) (fun u6 hu6 hcu6 hzu6 => ?_)
      exact sr_iretZ dX3_takeCost_34 rfl (hzu6 rfl)  rfl
  · refine sr_iconst (pc' := 13) dX3_takeCost_12 rfl (by decide) ?_
    exact sr_iretZ dX3_takeCost_13 rfl (Or.inl rfl) rfl
def rea_takeLine   (μ : Mem) : Option (Int × Mem) := (rea_isName 0 μ).bind fun u1 => if u1 = 0 then ((rea_isName 1 μ).bind fun u2 => if u2 = 0 then ((rea_isName 2 μ).bind fun u3 => if u3 = 0 then ((rea_isName 3 μ).bind fun u4 => if u4 = 0 then ((rea_isName 4 μ).bind fun u5 => if u5 = 0 then ((rea_isName 5 μ).bind fun u6 => if u6 = 0 then ((rea_isName 6 μ).bind fun u7 => if u7 = 0 then ((rea_isName 7 μ).bind fun u8 => if u8 = 0 then ((rea_isName 8 μ).bind fun u9 => if u9 = 0 then ((rea_refuse 2 (μ 25 6) μ).bind fun u10 => some (u10.1, u10.2)) else ((rea_takeCost μ).bind fun u11 => some (u11.1, u11.2))) else ((rea_takeCart μ).bind fun u12 => some (u12.1, u12.2))) else ((rea_takeFrost μ).bind fun u13 => some (u13.1, u13.2))) else ((rea_takeRut μ).bind fun u14 => some (u14.1, u14.2))) else ((rea_takeToll μ).bind fun u15 => some (u15.1, u15.2))) else ((rea_takeSmith μ).bind fun u16 => some (u16.1, u16.2))) else ((rea_takeHill μ).bind fun u17 => some (u17.1, u17.2))) else ((rea_takeBog μ).bind fun u18 => some (u18.1, u18.2))) else ((rea_takeLast μ).bind fun u19 => some (u19.1, u19.2))
theorem rea_takeLine_sp {l : Launch} {G : Nv}   (μ : Mem) : SP l G S88 mX3_takeLine [vR 25] μ (rea_takeLine μ) jIM := by
  refine sp_go (lv := [some (vR 25)]) pn_X3 (Nat.le_of_ble_eq_true rfl) rfl ?_
  unfold rea_takeLine
  refine sr_aload_n (i := 0) (pc' := 1) dX3_takeLine_0 rfl rfl rfl ?_
  refine sr_ldcS (j := 0) (tx := "yards") (pc' := 3) dX3_takeLine_1 rfl rfl (List.mem_of_getElem? (i := 0) rfl) ?_
  refine sr_callV1_I (pc' := 6) (rea_isName_sp (by decide) μ) dX3_takeLine_3 rfl mg_X3_isName mi_X3_isName (Or.inl ⟨3, _, TX3, 12, s88_25, rfl⟩) ⟨Nat.le_of_ble_eq_true rfl, Nat.le_of_ble_eq_true rfl⟩ w_261 (Nat.le_of_ble_eq_true rfl) (fun u1 hu1 hcu1 hzu1 => ?_)
  refine sr_if_eq (pc' := 9) (tgt := 14) dX3_takeLine_6 rfl rfl (fun c6 => ?_) (fun c6 => ?_)
  · refine sr_aload_n (i := 0) (pc' := 15) dX3_takeLine_14 rfl rfl rfl ?_
    refine sr_ldcS (j := 1) (tx := "bog") (pc' := 17) dX3_takeLine_15 rfl rfl (List.mem_of_getElem? (i := 1) rfl) ?_
    refine sr_callV1_I (pc' := 20) (rea_isName_sp (by decide) μ) dX3_takeLine_17 rfl mg_X3_isName mi_X3_isName (Or.inl ⟨3, _, TX3, 12, s88_25, rfl⟩) ⟨Nat.le_of_ble_eq_true rfl, Nat.le_of_ble_eq_true rfl⟩ w_261 (Nat.le_of_ble_eq_true rfl) (fun u2 hu2 hcu2 hzu2 => ?_)
    refine sr_if_eq (pc' := 23) (tgt := 28) dX3_takeLine_20 rfl rfl (fun c20 => ?_) (fun c20 => ?_)
    · refine sr_aload_n (i := 0) (pc' := 29) dX3_takeLine_28 rfl rfl rfl ?_
      refine sr_ldcS (j := 2) (tx := "hill") (pc' := 31) dX3_takeLine_29 rfl rfl (List.mem_of_getElem? (i := 2) rfl) ?_
      refine sr_callV1_I (pc' := 34) (rea_isName_sp (by decide) μ) dX3_takeLine_31 rfl mg_X3_isName mi_X3_isName (Or.inl ⟨3, _, TX3, 12, s88_25, rfl⟩) ⟨Nat.le_of_ble_eq_true rfl, Nat.le_of_ble_eq_true rfl⟩ w_261 (Nat.le_of_ble_eq_true rfl) (fun u3 hu3 hcu3 hzu3 => ?_)
      refine sr_if_eq (pc' := 37) (tgt := 42) dX3_takeLine_34 rfl rfl (fun c34 => ?_) (fun c34 => ?_)
      · refine sr_aload_n (i := 0) (pc' := 43) dX3_takeLine_42 rfl rfl rfl ?_
        refine sr_ldcS (j := 3) (tx := "smith") (pc' := 45) dX3_takeLine_43 rfl rfl (List.mem_of_getElem? (i := 3) rfl) ?_
        refine sr_callV1_I (pc' := 48) (rea_isName_sp (by decide) μ) dX3_takeLine_45 rfl mg_X3_isName mi_X3_isName (Or.inl ⟨3, _, TX3, 12, s88_25, rfl⟩) ⟨Nat.le_of_ble_eq_true rfl, Nat.le_of_ble_eq_true rfl⟩ w_261 (Nat.le_of_ble_eq_true rfl) (fun u4 hu4 hcu4 hzu4 => ?_)
        refine sr_if_eq (pc' := 51) (tgt := 56) dX3_takeLine_48 rfl rfl (fun c48 => ?_) (fun c48 => ?_)
        · refine sr_aload_n (i := 0) (pc' := 57) dX3_takeLine_56 rfl rfl rfl ?_
          refine sr_ldcS (j := 4) (tx := "toll") (pc' := 59) dX3_takeLine_57 rfl rfl (List.mem_of_getElem? (i := 4) rfl) ?_
          refine sr_callV1_I (pc' := 62) (rea_isName_sp (by decide) μ) dX3_takeLine_59 rfl mg_X3_isName mi_X3_isName (Or.inl ⟨3, _, TX3, 12, s88_25, rfl⟩) ⟨Nat.le_of_ble_eq_true rfl, Nat.le_of_ble_eq_true rfl⟩ w_261 (Nat.le_of_ble_eq_true rfl) (fun u5 hu5 hcu5 hzu5 => ?_)
          refine sr_if_eq (pc' := 65) (tgt := 70) dX3_takeLine_62 rfl rfl (fun c62 => ?_) (fun c62 => ?_)
          · refine sr_aload_n (i := 0) (pc' := 71) dX3_takeLine_70 rfl rfl rfl ?_
            refine sr_ldcS (j := 5) (tx := "rut") (pc' := 73) dX3_takeLine_71 rfl rfl (List.mem_of_getElem? (i := 5) rfl) ?_
            refine sr_callV1_I (pc' := 76) (rea_isName_sp (by decide) μ) dX3_takeLine_73 rfl mg_X3_isName mi_X3_isName (Or.inl ⟨3, _, TX3, 12, s88_25, rfl⟩) ⟨Nat.le_of_ble_eq_true rfl, Nat.le_of_ble_eq_true rfl⟩ w_261 (Nat.le_of_ble_eq_true rfl) (fun u6 hu6 hcu6 hzu6 => ?_)
            refine sr_if_eq (pc' := 79) (tgt := 84) dX3_takeLine_76 rfl rfl (fun c76 => ?_) (fun c76 => ?_)
            · refine sr_aload_n (i := 0) (pc' := 85) dX3_takeLine_84 rfl rfl rfl ?_
              refine sr_ldcS (j := 6) (tx := "frost") (pc' := 87) dX3_takeLine_85 rfl rfl (List.mem_of_getElem? (i := 6) rfl) ?_
              refine sr_callV1_I (pc' := 90) (rea_isName_sp (by decide) μ) dX3_takeLine_87 rfl mg_X3_isName mi_X3_isName (Or.inl ⟨3, _, TX3, 12, s88_25, rfl⟩) ⟨Nat.le_of_ble_eq_true rfl, Nat.le_of_ble_eq_true rfl⟩ w_261 (Nat.le_of_ble_eq_true rfl) (fun u7 hu7 hcu7 hzu7 => ?_)
              refine sr_if_eq (pc' := 93) (tgt := 98) dX3_takeLine_90 rfl rfl (fun c90 => ?_) (fun c90 => ?_)
              · refine sr_aload_n (i := 0) (pc' := 99) dX3_takeLine_98 rfl rfl rfl ?_
                refine sr_ldcS (j := 7) (tx := "cart") (pc' := 101) dX3_takeLine_99 rfl rfl (List.mem_of_getElem? (i := 7) rfl) ?_
                refine sr_callV1_I (pc' := 104) (rea_isName_sp (by decide) μ) dX3_takeLine_101 rfl mg_X3_isName mi_X3_isName (Or.inl ⟨3, _, TX3, 12, s88_25, rfl⟩) ⟨Nat.le_of_ble_eq_true rfl, Nat.le_of_ble_eq_true rfl⟩ w_261 (Nat.le_of_ble_eq_true rfl) (fun u8 hu8 hcu8 hzu8 => ?_)
                refine sr_if_eq (pc' := 107) (tgt := 112) dX3_takeLine_104 rfl rfl (fun c104 => ?_) (fun c104 => ?_)
                · refine sr_aload_n (i := 0) (pc' := 113) dX3_takeLine_112 rfl rfl rfl ?_
                  refine sr_ldcS (j := 8) (tx := "cost") (pc' := 115) dX3_takeLine_113 rfl rfl (List.mem_of_getElem? (i := 8) rfl) ?_
                  refine sr_callV1_I (pc' := 118) (rea_isName_sp (by decide) μ) dX3_takeLine_115 rfl mg_X3_isName mi_X3_isName (Or.inl ⟨3, _, TX3, 12, s88_25, rfl⟩) ⟨Nat.le_of_ble_eq_true rfl, Nat.le_of_ble_eq_true rfl⟩ w_261 (Nat.le_of_ble_eq_true rfl) (fun u9 hu9 hcu9 hzu9 => ?_)
                  refine sr_if_eq (pc' := 121) (tgt := 128) dX3_takeLine_118 rfl rfl (fun c118 => ?_) (fun c118 => ?_)
                  · refine sr_aload_n (i := 0) (pc' := 129) dX3_takeLine_128 rfl rfl rfl ?_
                    refine sr_iconst (pc' := 130) dX3_takeLine_129 rfl (by decide) ?_
                    refine sr_aload_n (i := 0) (pc' := 131) dX3_takeLine_130 rfl rfl rfl ?_
                    refine sr_getI (k := 6) (pc' := 134) cls_X3 dX3_takeLine_131 rfl s88_25 rfl (by decide) w_223 ?_
                    refine sr_callV2_IM (pc' := 137) (rea_refuse_sp 2 (μ 25 6) μ) dX3_takeLine_134 rfl mg_X3_refuse mi_X3_refuse (Or.inl ⟨3, _, TX3, 12, s88_25, rfl⟩) ⟨Nat.le_of_ble_eq_true rfl, Nat.le_of_ble_eq_true rfl⟩ w_224 (Nat.le_of_ble_eq_true rfl) (fun u10 hu10 hcu10 hzu10 => ?_)
                    exact sr_iretZ dX3_takeLine_137 rfl (hzu10 rfl)  rfl
                  · refine sr_aload_n (i := 0) (pc' := 122) dX3_takeLine_121 rfl rfl rfl ?_
                    refine sr_callV0_IM (pc' := 125) (rea_takeCost_sp μ) dX3_takeLine_122 rfl mg_X3_takeCost mi_X3_takeCost (Or.inl ⟨3, _, TX3, 12, s88_25, rfl⟩) ⟨Nat.le_of_ble_eq_true rfl, Nat.le_of_ble_eq_true rfl⟩ w_271 (Nat.le_of_ble_eq_true rfl) (fun u11 hu11 hcu11 hzu11 => ?_)
                    refine sr_goto (pc' := 137) dX3_takeLine_125 rfl ?_
                    exact sr_iretZ dX3_takeLine_137 rfl (hzu11 rfl)  rfl
                · refine sr_aload_n (i := 0) (pc' := 108) dX3_takeLine_107 rfl rfl rfl ?_
                  refine sr_callV0_IM (pc' := 111) (rea_takeCart_sp μ) dX3_takeLine_108 rfl mg_X3_takeCart mi_X3_takeCart (Or.inl ⟨3, _, TX3, 12, s88_25, rfl⟩) ⟨Nat.le_of_ble_eq_true rfl, Nat.le_of_ble_eq_true rfl⟩ w_272 (Nat.le_of_ble_eq_true rfl) (fun u12 hu12 hcu12 hzu12 => ?_)
                  exact sr_iretZ dX3_takeLine_111 rfl (hzu12 rfl)  rfl
              · refine sr_aload_n (i := 0) (pc' := 94) dX3_takeLine_93 rfl rfl rfl ?_
                refine sr_callV0_IM (pc' := 97) (rea_takeFrost_sp μ) dX3_takeLine_94 rfl mg_X3_takeFrost mi_X3_takeFrost (Or.inl ⟨3, _, TX3, 12, s88_25, rfl⟩) ⟨Nat.le_of_ble_eq_true rfl, Nat.le_of_ble_eq_true rfl⟩ w_273 (Nat.le_of_ble_eq_true rfl) (fun u13 hu13 hcu13 hzu13 => ?_)
                exact sr_iretZ dX3_takeLine_97 rfl (hzu13 rfl)  rfl
            · refine sr_aload_n (i := 0) (pc' := 80) dX3_takeLine_79 rfl rfl rfl ?_
              refine sr_callV0_IM (pc' := 83) (rea_takeRut_sp μ) dX3_takeLine_80 rfl mg_X3_takeRut mi_X3_takeRut (Or.inl ⟨3, _, TX3, 12, s88_25, rfl⟩) ⟨Nat.le_of_ble_eq_true rfl, Nat.le_of_ble_eq_true rfl⟩ w_274 (Nat.le_of_ble_eq_true rfl) (fun u14 hu14 hcu14 hzu14 => ?_)
              exact sr_iretZ dX3_takeLine_83 rfl (hzu14 rfl)  rfl
          · refine sr_aload_n (i := 0) (pc' := 66) dX3_takeLine_65 rfl rfl rfl ?_
            refine sr_callV0_IM (pc' := 69) (rea_takeToll_sp μ) dX3_takeLine_66 rfl mg_X3_takeToll mi_X3_takeToll (Or.inl ⟨3, _, TX3, 12, s88_25, rfl⟩) ⟨Nat.le_of_ble_eq_true rfl, Nat.le_of_ble_eq_true rfl⟩ w_275 (Nat.le_of_ble_eq_true rfl) (fun u15 hu15 hcu15 hzu15 => ?_)
            exact sr_iretZ dX3_takeLine_69 rfl (hzu15 rfl)  rfl
        · refine sr_aload_n (i := 0) (pc' := 52) dX3_takeLine_51 rfl rfl rfl ?_
          refine sr_callV0_IM (pc' := 55) (rea_takeSmith_sp μ) dX3_takeLine_52 rfl mg_X3_takeSmith mi_X3_takeSmith (Or.inl ⟨3, _, TX3, 12, s88_25, rfl⟩) ⟨Nat.le_of_ble_eq_true rfl, Nat.le_of_ble_eq_true rfl⟩ w_276 (Nat.le_of_ble_eq_true rfl) (fun u16 hu16 hcu16 hzu16 => ?_)
          exact sr_iretZ dX3_takeLine_55 rfl (hzu16 rfl)  rfl
      · refine sr_aload_n (i := 0) (pc' := 38) dX3_takeLine_37 rfl rfl rfl ?_
        refine sr_callV0_IM (pc' := 41) (rea_takeHill_sp μ) dX3_takeLine_38 rfl mg_X3_takeHill mi_X3_takeHill (Or.inl ⟨3, _, TX3, 12, s88_25, rfl⟩) ⟨Nat.le_of_ble_eq_true rfl, Nat.le_of_ble_eq_true rfl⟩ w_277 (Nat.le_of_ble_eq_true rfl) (fun u17 hu17 hcu17 hzu17 => ?_)
        exact sr_iretZ dX3_takeLine_41 rfl (hzu17 rfl)  rfl
    · refine sr_aload_n (i := 0) (pc' := 24) dX3_takeLine_23 rfl rfl rfl ?_
      refine sr_callV0_IM (pc' := 27) (rea_takeBog_sp μ) dX3_takeLine_24 rfl mg_X3_takeBog mi_X3_takeBog (Or.inl ⟨3, _, TX3, 12, s88_25, rfl⟩) ⟨Nat.le_of_ble_eq_true rfl, Nat.le_of_ble_eq_true rfl⟩ w_278 (Nat.le_of_ble_eq_true rfl) (fun u18 hu18 hcu18 hzu18 => ?_)
      exact sr_iretZ dX3_takeLine_27 rfl (hzu18 rfl)  rfl
  · refine sr_aload_n (i := 0) (pc' := 10) dX3_takeLine_9 rfl rfl rfl ?_
    refine sr_callV0_IM (pc' := 13) (rea_takeLast_sp μ) dX3_takeLine_10 rfl mg_X3_takeLast mi_X3_takeLast (Or.inl ⟨3, _, TX3, 12, s88_25, rfl⟩) ⟨Nat.le_of_ble_eq_true rfl, Nat.le_of_ble_eq_true rfl⟩ w_279 (Nat.le_of_ble_eq_true rfl) (fun u19 hu19 hcu19 hzu19 => ?_)
    exact sr_iretZ dX3_takeLine_13 rfl (hzu19 rfl)  rfl
def rea_takeText_44   : Nat → Int → Mem → Option (Int × Mem)
  | 0, _, _ => none
  | n + 1, x1, μ => if 400 < x1 then (some ((-1), μ)) else ((rea_takeToken μ).bind fun u1 => if u1.1 = 0 then (some ((-1), u1.2)) else (if (u1.2 25 5) = 0 then ((rea_isWhole u1.2).bind fun u2 => if u2.1 = 0 then (some ((-1), u2.2)) else (some (x1, u2.2))) else ((rea_takeLine u1.2).bind fun u3 => if u3.1 = 0 then (some ((-1), u3.2)) else (rea_takeText_44 n (wI (x1 + 1)) u3.2))))
theorem rea_takeText_44_s {l : Launch} {G : Nv}     : ∀ (n : Nat) (x1 : Int) (μ : Mem), SR l G S88 mX3_takeText (rea_takeText_44 n x1 μ) jIM 44 [some (vR 25), some (vI x1)] [] μ := by
  intro n
  induction n with
  | zero => intro x1 μ; exact sr_none
  | succ n ih =>
    intro x1 μ
    rw [rea_takeText_44.eq_2]
    refine sr_iload_n (i := 1) (pc' := 45) dX3_takeText_44 rfl rfl rfl ?_
    refine sr_sipush (pc' := 48) dX3_takeText_45 rfl (by decide) (by decide) ?_
    refine sr_icmp_gt (pc' := 51) (tgt := 95) dX3_takeText_48 rfl rfl (fun c48 => ?_) (fun c48 => ?_)
    · refine sr_iconst (pc' := 96) dX3_takeText_95 rfl (by decide) ?_
      exact sr_iretI dX3_takeText_96 rfl rfl
    · refine sr_aload_n (i := 0) (pc' := 52) dX3_takeText_51 rfl rfl rfl ?_
      refine sr_callV0_IM (pc' := 55) (rea_takeToken_sp μ) dX3_takeText_52 rfl mg_X3_takeToken mi_X3_takeToken (Or.inl ⟨3, _, TX3, 12, s88_25, rfl⟩) ⟨Nat.le_of_ble_eq_true rfl, Nat.le_of_ble_eq_true rfl⟩ w_242 (Nat.le_of_ble_eq_true rfl) (fun u1 hu1 hcu1 hzu1 => ?_)
      refine sr_if_ne (pc' := 58) (tgt := 60) dX3_takeText_55 rfl rfl (fun c55 => ?_) (fun c55 => ?_)
      · refine sr_iconst (pc' := 59) dX3_takeText_58 rfl (by decide) ?_
        exact sr_iretI dX3_takeText_59 rfl rfl
      · refine sr_aload_n (i := 0) (pc' := 61) dX3_takeText_60 rfl rfl rfl ?_
        refine sr_getI (k := 5) (pc' := 64) cls_X3 dX3_takeText_61 rfl s88_25 rfl (by decide) w_222 ?_
        refine sr_if_ne (pc' := 67) (tgt := 80) dX3_takeText_64 rfl rfl (fun c64 => ?_) (fun c64 => ?_)
        · refine sr_aload_n (i := 0) (pc' := 68) dX3_takeText_67 rfl rfl rfl ?_
          refine sr_callV0_IM (pc' := 71) (rea_isWhole_sp u1.2) dX3_takeText_68 rfl mg_X3_isWhole mi_X3_isWhole (Or.inl ⟨3, _, TX3, 12, s88_25, rfl⟩) ⟨Nat.le_of_ble_eq_true rfl, Nat.le_of_ble_eq_true rfl⟩ w_280 (Nat.le_of_ble_eq_true rfl) (fun u2 hu2 hcu2 hzu2 => ?_)
          refine sr_if_eq (pc' := 74) (tgt := 78) dX3_takeText_71 rfl rfl (fun c71 => ?_) (fun c71 => ?_)
          · refine sr_iconst (pc' := 79) dX3_takeText_78 rfl (by decide) ?_
            exact sr_iretI dX3_takeText_79 rfl rfl
          · refine sr_iload_n (i := 1) (pc' := 75) dX3_takeText_74 rfl rfl rfl ?_
            refine sr_goto (pc' := 79) dX3_takeText_75 rfl ?_
            exact sr_iretI dX3_takeText_79 rfl rfl
        · refine sr_aload_n (i := 0) (pc' := 81) dX3_takeText_80 rfl rfl rfl ?_
          refine sr_callV0_IM (pc' := 84) (rea_takeLine_sp u1.2) dX3_takeText_81 rfl mg_X3_takeLine mi_X3_takeLine (Or.inl ⟨3, _, TX3, 12, s88_25, rfl⟩) ⟨Nat.le_of_ble_eq_true rfl, Nat.le_of_ble_eq_true rfl⟩ w_281 (Nat.le_of_ble_eq_true rfl) (fun u3 hu3 hcu3 hzu3 => ?_)
          refine sr_if_ne (pc' := 87) (tgt := 89) dX3_takeText_84 rfl rfl (fun c84 => ?_) (fun c84 => ?_)
          · refine sr_iconst (pc' := 88) dX3_takeText_87 rfl (by decide) ?_
            exact sr_iretI dX3_takeText_88 rfl rfl
          · refine sr_iinc (lv' := [some (vR 25), some (vI (wI (x1 + 1)))]) (pc' := 92) dX3_takeText_89 rfl (by decide) rfl rfl ?_
            refine sr_goto (pc' := 44) dX3_takeText_92 rfl ?_
            exact ih (wI (x1 + 1)) u3.2
def rea_takeText   (μ : Mem) : Option (Int × Mem) := (roa_reset 27 μ).bind fun μ1 => bnd (mset μ1 25 3 0) fun μ2 => bnd (mset μ2 25 4 0) fun μ3 => bnd (mset μ3 25 7 0) fun μ4 => bnd (mset μ4 25 8 0) fun μ5 => bnd (mset μ5 25 9 0) fun μ6 => bnd (mset μ6 25 10 0) fun μ7 => bnd (mset μ7 25 11 0) fun μ8 => rea_takeText_44 BIG 0 μ8
theorem rea_takeText_sp {l : Launch} {G : Nv}   (μ : Mem) : SP l G S88 mX3_takeText [vR 25] μ (rea_takeText μ) jIM := by
  refine sp_go (lv := [some (vR 25), none]) pn_X3 (Nat.le_of_ble_eq_true rfl) rfl ?_
  unfold rea_takeText
  refine sr_aload_n (i := 0) (pc' := 1) dX3_takeText_0 rfl rfl rfl ?_
  refine sr_getR (k := 2) (b := 27) (pc' := 4) cls_X3 dX3_takeText_1 rfl s88_25 rfl (by decide) w_227 ?_
  refine sr_callVN0_M (pc' := 7) (roa_reset_sp isRoad_27 μ) dX3_takeText_4 rfl mg_X4_reset mi_X4_reset (Or.inl ⟨4, _, TX4, 12, isRoad_27.1, rfl⟩) ⟨Nat.le_of_ble_eq_true rfl, Nat.le_of_ble_eq_true rfl⟩ w_282 (Nat.le_of_ble_eq_true rfl) (fun μ1 hμ1 => ?_)
  refine sr_aload_n (i := 0) (pc' := 8) dX3_takeText_7 rfl rfl rfl ?_
  refine sr_iconst (pc' := 9) dX3_takeText_8 rfl (by decide) ?_
  refine sr_putI (k := 3) (pc' := 12) cls_X3 dX3_takeText_9 rfl s88_25 rfl (by decide) w_218 rfl rfl (fun μ2 hμ2 => ?_)
  refine sr_aload_n (i := 0) (pc' := 13) dX3_takeText_12 rfl rfl rfl ?_
  refine sr_iconst (pc' := 14) dX3_takeText_13 rfl (by decide) ?_
  refine sr_putI (k := 4) (pc' := 17) cls_X3 dX3_takeText_14 rfl s88_25 rfl (by decide) w_219 rfl rfl (fun μ3 hμ3 => ?_)
  refine sr_aload_n (i := 0) (pc' := 18) dX3_takeText_17 rfl rfl rfl ?_
  refine sr_iconst (pc' := 19) dX3_takeText_18 rfl (by decide) ?_
  refine sr_putI (k := 7) (pc' := 22) cls_X3 dX3_takeText_19 rfl s88_25 rfl (by decide) w_220 rfl rfl (fun μ4 hμ4 => ?_)
  refine sr_aload_n (i := 0) (pc' := 23) dX3_takeText_22 rfl rfl rfl ?_
  refine sr_iconst (pc' := 24) dX3_takeText_23 rfl (by decide) ?_
  refine sr_putZ (k := 8) (pc' := 27) cls_X3 dX3_takeText_24 rfl s88_25 rfl (by decide) w_243 rfl rfl (Or.inl rfl) (fun μ5 hμ5 => ?_)
  refine sr_aload_n (i := 0) (pc' := 28) dX3_takeText_27 rfl rfl rfl ?_
  refine sr_iconst (pc' := 29) dX3_takeText_28 rfl (by decide) ?_
  refine sr_putI (k := 9) (pc' := 32) cls_X3 dX3_takeText_29 rfl s88_25 rfl (by decide) w_269 rfl rfl (fun μ6 hμ6 => ?_)
  refine sr_aload_n (i := 0) (pc' := 33) dX3_takeText_32 rfl rfl rfl ?_
  refine sr_lconst (x := 0) (pc' := 34) dX3_takeText_33 rfl (by decide) rfl ?_
  refine sr_putL (k := 10) (pc' := 37) cls_X3 dX3_takeText_34 rfl s88_25 rfl (by decide) w_226 rfl rfl (fun μ7 hμ7 => ?_)
  refine sr_aload_n (i := 0) (pc' := 38) dX3_takeText_37 rfl rfl rfl ?_
  refine sr_iconst (pc' := 39) dX3_takeText_38 rfl (by decide) ?_
  refine sr_putI (k := 11) (pc' := 42) cls_X3 dX3_takeText_39 rfl s88_25 rfl (by decide) w_229 rfl rfl (fun μ8 hμ8 => ?_)
  refine sr_iconst (pc' := 43) dX3_takeText_42 rfl (by decide) ?_
  refine sr_istore_n (i := 1) (lv' := [some (vR 25), some (vI 0)]) (pc' := 44) dX3_takeText_43 rfl rfl (by decide) rfl ?_
  exact rea_takeText_44_s BIG 0 μ8
def ww_text   (μ : Mem) : Option (Int × Mem) := (rea_takeText μ).bind fun u1 => bnd (mset u1.2 25 1 0) fun μ2 => if 0 ≤ u1.1 then ((roa_copyFrom 1 27 μ2).bind fun μ3 => bnd (mset μ3 0 10 0) fun μ4 => (pla_drop μ4).bind fun μ5 => some (u1.1, μ5)) else (some (wI ((-10) - (μ2 25 4)), μ2))
theorem ww_text_sp {l : Launch} {G : Nv}   (μ : Mem) : SP l G S88 mX8_text [vR 0] μ (ww_text μ) jIM := by
  refine sp_go (lv := [some (vR 0), none]) pn_X8 (Nat.le_of_ble_eq_true rfl) rfl ?_
  unfold ww_text
  refine sr_aload_n (i := 0) (pc' := 1) dX8_text_0 rfl rfl rfl ?_
  refine sr_getR (k := 3) (b := 25) (pc' := 4) cls_X8 dX8_text_1 rfl s88_0 rfl (by decide) w_56 ?_
  refine sr_callVN0_IM (pc' := 7) (rea_takeText_sp μ) dX8_text_4 rfl mg_X3_takeText mi_X3_takeText (Or.inl ⟨3, _, TX3, 12, s88_25, rfl⟩) ⟨Nat.le_of_ble_eq_true rfl, Nat.le_of_ble_eq_true rfl⟩ w_283 (Nat.le_of_ble_eq_true rfl) (fun u1 hu1 hcu1 hzu1 => ?_)
  refine sr_istore_n (i := 1) (lv' := [some (vR 0), some (vI u1.1)]) (pc' := 8) dX8_text_7 rfl rfl (by decide) rfl ?_
  refine sr_aload_n (i := 0) (pc' := 9) dX8_text_8 rfl rfl rfl ?_
  refine sr_getR (k := 3) (b := 25) (pc' := 12) cls_X8 dX8_text_9 rfl s88_0 rfl (by decide) w_56 ?_
  refine sr_iconst (pc' := 13) dX8_text_12 rfl (by decide) ?_
  refine sr_putIN (k := 1) (pc' := 16) cls_X3 dX8_text_13 rfl s88_25 rfl (by decide) w_57 rfl rfl (fun μ2 hμ2 => ?_)
  refine sr_iload_n (i := 1) (pc' := 17) dX8_text_16 rfl rfl rfl ?_
  refine sr_if_ge (pc' := 20) (tgt := 31) dX8_text_17 rfl rfl (fun c17 => ?_) (fun c17 => ?_)
  · refine sr_aload_n (i := 0) (pc' := 32) dX8_text_31 rfl rfl rfl ?_
    refine sr_getR (k := 0) (b := 1) (pc' := 35) cls_X8 dX8_text_32 rfl s88_0 rfl (by decide) w_19 ?_
    refine sr_aload_n (i := 0) (pc' := 36) dX8_text_35 rfl rfl rfl ?_
    refine sr_getR (k := 3) (b := 25) (pc' := 39) cls_X8 dX8_text_36 rfl s88_0 rfl (by decide) w_56 ?_
    refine sr_getRN (k := 2) (b := 27) (pc' := 42) cls_X3 dX8_text_39 rfl s88_25 rfl (by decide) w_284 ?_
    refine sr_callVN1_M (pc' := 45) (roa_copyFrom_sp isRoad_1 isRoad_27 μ2) dX8_text_42 rfl mg_X4_copyFrom mi_X4_copyFrom (Or.inl ⟨4, _, TX4, 12, isRoad_1.1, rfl⟩) ⟨Nat.le_of_ble_eq_true rfl, Nat.le_of_ble_eq_true rfl⟩ w_21 (Nat.le_of_ble_eq_true rfl) (fun μ3 hμ3 => ?_)
    refine sr_aload_n (i := 0) (pc' := 46) dX8_text_45 rfl rfl rfl ?_
    refine sr_iconst (pc' := 47) dX8_text_46 rfl (by decide) ?_
    refine sr_putI (k := 10) (pc' := 50) cls_X8 dX8_text_47 rfl s88_0 rfl (by decide) w_18 rfl rfl (fun μ4 hμ4 => ?_)
    refine sr_aload_n (i := 0) (pc' := 51) dX8_text_50 rfl rfl rfl ?_
    refine sr_getR (k := 6) (b := 46) (pc' := 54) cls_X8 dX8_text_51 rfl s88_0 rfl (by decide) w_22 ?_
    refine sr_callVN0_M (pc' := 57) (pla_drop_sp μ4) dX8_text_54 rfl mg_X2_drop mi_X2_drop (Or.inl ⟨2, _, TX2, 10, s88_46, rfl⟩) ⟨Nat.le_of_ble_eq_true rfl, Nat.le_of_ble_eq_true rfl⟩ w_23 (Nat.le_of_ble_eq_true rfl) (fun μ5 hμ5 => ?_)
    refine sr_iload_n (i := 1) (pc' := 58) dX8_text_57 rfl rfl rfl ?_
    exact sr_iretI dX8_text_58 rfl rfl
  · refine sr_bipush (pc' := 22) dX8_text_20 rfl (by decide) (by decide) ?_
    refine sr_aload_n (i := 0) (pc' := 23) dX8_text_22 rfl rfl rfl ?_
    refine sr_getR (k := 3) (b := 25) (pc' := 26) cls_X8 dX8_text_23 rfl s88_0 rfl (by decide) w_56 ?_
    refine sr_getIN (k := 4) (pc' := 29) cls_X3 dX8_text_26 rfl s88_25 rfl (by decide) w_285 ?_
    refine sr_isub (pc' := 30) dX8_text_29 rfl ?_
    exact sr_iretI dX8_text_30 rfl rfl
def ww_torn (μ : Mem)  : Option (Int) := some (μ 57 3)
theorem ww_torn_sp {l : Launch} {G : Nv}   (μ : Mem) : SP l G S88 mX8_torn [vR 0] μ (ww_torn μ) (jI μ) := by
  refine sp_go (lv := [some (vR 0)]) pn_X8 (Nat.le_of_ble_eq_true rfl) rfl ?_
  unfold ww_torn
  refine sr_aload_n (i := 0) (pc' := 1) dX8_torn_0 rfl rfl rfl ?_
  refine sr_getR (k := 9) (b := 57) (pc' := 4) cls_X8 dX8_torn_1 rfl s88_0 rfl (by decide) w_58 ?_
  refine sr_getIN (k := 3) (pc' := 7) cls_X6 dX8_torn_4 rfl s88_57 rfl (by decide) w_211 ?_
  exact sr_iretI dX8_torn_7 rfl rfl
def ww_track   (x1 x2 : Int) (μ : Mem) : Option (Int × Mem) := (roa_refusesTrack 1 μ x1 x2 (μ 1 11)).bind fun u1 => if u1 = 0 then ((roa_addTrack 1 x1 x2 μ).bind fun u2 => some (u2.1, u2.2)) else (some (u1, μ))
theorem ww_track_sp {l : Launch} {G : Nv}   (x1 x2 : Int) (μ : Mem) : SP l G S88 mX8_track [vR 0, vI x1, vI x2] μ (ww_track x1 x2 μ) jIM := by
  refine sp_go (lv := [some (vR 0), some (vI x1), some (vI x2), none]) pn_X8 (Nat.le_of_ble_eq_true rfl) rfl ?_
  unfold ww_track
  refine sr_aload_n (i := 0) (pc' := 1) dX8_track_0 rfl rfl rfl ?_
  refine sr_getR (k := 0) (b := 1) (pc' := 4) cls_X8 dX8_track_1 rfl s88_0 rfl (by decide) w_19 ?_
  refine sr_iload_n (i := 1) (pc' := 5) dX8_track_4 rfl rfl rfl ?_
  refine sr_iload_n (i := 2) (pc' := 6) dX8_track_5 rfl rfl rfl ?_
  refine sr_aload_n (i := 0) (pc' := 7) dX8_track_6 rfl rfl rfl ?_
  refine sr_getR (k := 0) (b := 1) (pc' := 10) cls_X8 dX8_track_7 rfl s88_0 rfl (by decide) w_19 ?_
  refine sr_getI (k := 11) (pc' := 13) cls_X4 dX8_track_10 rfl isRoad_1.1 rfl (by decide) w_54 ?_
  refine sr_callVN3_I (pc' := 16) (roa_refusesTrack_sp isRoad_1 x1 x2 (μ 1 11) μ) dX8_track_13 rfl mg_X4_refusesTrack mi_X4_refusesTrack (Or.inl ⟨4, _, TX4, 12, isRoad_1.1, rfl⟩) ⟨Nat.le_of_ble_eq_true rfl, Nat.le_of_ble_eq_true rfl⟩ w_213 (Nat.le_of_ble_eq_true rfl) (fun u1 hu1 hcu1 hzu1 => ?_)
  refine sr_istore_n (i := 3) (lv' := [some (vR 0), some (vI x1), some (vI x2), some (vI u1)]) (pc' := 17) dX8_track_16 rfl rfl (by decide) rfl ?_
  refine sr_iload_n (i := 3) (pc' := 18) dX8_track_17 rfl rfl rfl ?_
  refine sr_if_eq (pc' := 21) (tgt := 25) dX8_track_18 rfl rfl (fun c18 => ?_) (fun c18 => ?_)
  · refine sr_aload_n (i := 0) (pc' := 26) dX8_track_25 rfl rfl rfl ?_
    refine sr_getR (k := 0) (b := 1) (pc' := 29) cls_X8 dX8_track_26 rfl s88_0 rfl (by decide) w_19 ?_
    refine sr_iload_n (i := 1) (pc' := 30) dX8_track_29 rfl rfl rfl ?_
    refine sr_iload_n (i := 2) (pc' := 31) dX8_track_30 rfl rfl rfl ?_
    refine sr_callVN2_IM (pc' := 34) (roa_addTrack_sp isRoad_1 x1 x2 μ) dX8_track_31 rfl mg_X4_addTrack mi_X4_addTrack (Or.inl ⟨4, _, TX4, 12, isRoad_1.1, rfl⟩) ⟨Nat.le_of_ble_eq_true rfl, Nat.le_of_ble_eq_true rfl⟩ w_210 (Nat.le_of_ble_eq_true rfl) (fun u2 hu2 hcu2 hzu2 => ?_)
    exact sr_iretI dX8_track_34 rfl rfl
  · refine sr_iload_n (i := 3) (pc' := 22) dX8_track_21 rfl rfl rfl ?_
    refine sr_goto (pc' := 34) dX8_track_22 rfl ?_
    exact sr_iretI dX8_track_34 rfl rfl
def ww_waited   (x1 x2 : Int) (μ : Mem) : Option (Int × Mem) := (roa_hasCart 1 μ x1).bind fun u1 => if u1 = 0 then (some ((-1), μ)) else ((ww_isBehind μ x2).bind fun u2 => if u2 = 0 then (some ((-1), μ)) else ((ww_runUpTo x2 μ).bind fun μ3 => (ww_at 40 5 μ3 x1).bind fun u4 => some (u4, μ3)))
theorem ww_waited_sp {l : Launch} {G : Nv}   (x1 x2 : Int) (μ : Mem) : SP l G S88 mX8_waited [vR 0, vI x1, vI x2] μ (ww_waited x1 x2 μ) jIM := by
  refine sp_go (lv := [some (vR 0), some (vI x1), some (vI x2)]) pn_X8 (Nat.le_of_ble_eq_true rfl) rfl ?_
  unfold ww_waited
  refine sr_aload_n (i := 0) (pc' := 1) dX8_waited_0 rfl rfl rfl ?_
  refine sr_getR (k := 0) (b := 1) (pc' := 4) cls_X8 dX8_waited_1 rfl s88_0 rfl (by decide) w_19 ?_
  refine sr_iload_n (i := 1) (pc' := 5) dX8_waited_4 rfl rfl rfl ?_
  refine sr_callVN1_I (pc' := 8) (roa_hasCart_sp isRoad_1 x1 μ) dX8_waited_5 rfl mg_X4_hasCart mi_X4_hasCart (Or.inl ⟨4, _, TX4, 12, isRoad_1.1, rfl⟩) ⟨Nat.le_of_ble_eq_true rfl, Nat.le_of_ble_eq_true rfl⟩ w_42 (Nat.le_of_ble_eq_true rfl) (fun u1 hu1 hcu1 hzu1 => ?_)
  refine sr_if_eq (pc' := 11) (tgt := 18) dX8_waited_8 rfl rfl (fun c8 => ?_) (fun c8 => ?_)
  · refine sr_iconst (pc' := 19) dX8_waited_18 rfl (by decide) ?_
    exact sr_iretI dX8_waited_19 rfl rfl
  · refine sr_iload_n (i := 2) (pc' := 12) dX8_waited_11 rfl rfl rfl ?_
    refine sr_callS1_I (pc' := 15) (ww_isBehind_sp x2 μ) dX8_waited_12 rfl mg_X8_isBehind ms_X8_isBehind ⟨Nat.le_of_ble_eq_true rfl, Nat.le_of_ble_eq_true rfl⟩ w_111 (Nat.le_of_ble_eq_true rfl) (fun u2 hu2 hcu2 hzu2 => ?_)
    refine sr_if_ne (pc' := 18) (tgt := 20) dX8_waited_15 rfl rfl (fun c15 => ?_) (fun c15 => ?_)
    · refine sr_iconst (pc' := 19) dX8_waited_18 rfl (by decide) ?_
      exact sr_iretI dX8_waited_19 rfl rfl
    · refine sr_aload_n (i := 0) (pc' := 21) dX8_waited_20 rfl rfl rfl ?_
      refine sr_iload_n (i := 2) (pc' := 22) dX8_waited_21 rfl rfl rfl ?_
      refine sr_callV1_M (pc' := 25) (ww_runUpTo_sp x2 μ) dX8_waited_22 rfl mg_X8_runUpTo mi_X8_runUpTo (Or.inl ⟨8, _, TX8, 11, s88_0, rfl⟩) ⟨Nat.le_of_ble_eq_true rfl, Nat.le_of_ble_eq_true rfl⟩ w_112 (Nat.le_of_ble_eq_true rfl) (fun μ3 hμ3 => ?_)
      refine sr_aload_n (i := 0) (pc' := 26) dX8_waited_25 rfl rfl rfl ?_
      refine sr_getR (k := 4) (b := 35) (pc' := 29) cls_X8 dX8_waited_26 rfl s88_0 rfl (by decide) w_106 ?_
      refine sr_getRN (k := 4) (b := 40) (pc' := 32) cls_X5 dX8_waited_29 rfl s88_35 rfl (by decide) w_286 ?_
      refine sr_iload_n (i := 1) (pc' := 33) dX8_waited_32 rfl rfl rfl ?_
      refine sr_callS2_I (pc' := 36) (ww_at_sp s88_40 (by decide) x1 μ3) dX8_waited_33 rfl mg_X8_at ms_X8_at ⟨Nat.le_of_ble_eq_true rfl, Nat.le_of_ble_eq_true rfl⟩ w_48 (Nat.le_of_ble_eq_true rfl) (fun u4 hu4 hcu4 hzu4 => ?_)
      exact sr_iretI dX8_waited_36 rfl rfl
def way_rankOf_75 (μ : Mem)  (x5 s0 : Int) : Option (Int) := if (μ 51 3) = 0 then (some (wI ((wI ((wI ((wI (s0 * 1000)) + x5)) * 1000)) + 1))) else (some (wI ((wI ((wI ((wI (x5 * 1000)) + s0)) * 1000)) + 1)))
theorem way_rankOf_75_s {l : Launch} {G : Nv}   (μ : Mem)   : ∀ (x5 s0 : Int), SR l G S88 mX7_rankOf (way_rankOf_75 μ x5 s0) (jI μ) 75 [some (vR 51), none, none, none, none, some (vI x5), none] [vI s0] μ := by
  intro x5 s0
  unfold way_rankOf_75
  refine sr_istore (lv' := [some (vR 51), none, none, none, none, some (vI x5), some (vI s0)]) (pc' := 77) dX7_rankOf_75 rfl (by decide) rfl ?_
  refine sr_aload_n (i := 0) (pc' := 78) dX7_rankOf_77 rfl rfl rfl ?_
  refine sr_getZ (k := 3) (pc' := 81) cls_X7 dX7_rankOf_78 rfl s88_51 rfl (by decide) w_287 ?_
  refine sr_if_eq (pc' := 84) (tgt := 102) dX7_rankOf_81 rfl rfl (fun c81 => ?_) (fun c81 => ?_)
  · refine sr_iload (pc' := 104) dX7_rankOf_102 rfl rfl ?_
    refine sr_sipush (pc' := 107) dX7_rankOf_104 rfl (by decide) (by decide) ?_
    refine sr_imul (pc' := 108) dX7_rankOf_107 rfl ?_
    refine sr_iload (pc' := 110) dX7_rankOf_108 rfl rfl ?_
    refine sr_iadd (pc' := 111) dX7_rankOf_110 rfl ?_
    refine sr_sipush (pc' := 114) dX7_rankOf_111 rfl (by decide) (by decide) ?_
    refine sr_imul (pc' := 115) dX7_rankOf_114 rfl ?_
    refine sr_iconst (pc' := 116) dX7_rankOf_115 rfl (by decide) ?_
    refine sr_iadd (pc' := 117) dX7_rankOf_116 rfl ?_
    exact sr_iretI dX7_rankOf_117 rfl rfl
  · refine sr_iload (pc' := 86) dX7_rankOf_84 rfl rfl ?_
    refine sr_sipush (pc' := 89) dX7_rankOf_86 rfl (by decide) (by decide) ?_
    refine sr_imul (pc' := 90) dX7_rankOf_89 rfl ?_
    refine sr_iload (pc' := 92) dX7_rankOf_90 rfl rfl ?_
    refine sr_iadd (pc' := 93) dX7_rankOf_92 rfl ?_
    refine sr_sipush (pc' := 96) dX7_rankOf_93 rfl (by decide) (by decide) ?_
    refine sr_imul (pc' := 97) dX7_rankOf_96 rfl ?_
    refine sr_iconst (pc' := 98) dX7_rankOf_97 rfl (by decide) ?_
    refine sr_iadd (pc' := 99) dX7_rankOf_98 rfl ?_
    refine sr_goto (pc' := 117) dX7_rankOf_99 rfl ?_
    exact sr_iretI dX7_rankOf_117 rfl rfl
def way_rankOf_47 (μ : Mem)  (x4 s0 : Int) : Option (Int) := if x4 = 0 then ((roa_part 1 μ (μ 51 2) 0).bind fun u1 => if u1 = 2 then (way_rankOf_75 μ s0 2) else (way_rankOf_75 μ s0 1)) else (way_rankOf_75 μ s0 1)
theorem way_rankOf_47_s {l : Launch} {G : Nv}   (μ : Mem)   : ∀ (x4 s0 : Int), SR l G S88 mX7_rankOf (way_rankOf_47 μ x4 s0) (jI μ) 47 [some (vR 51), none, none, none, some (vI x4), none, none] [vI s0] μ := by
  intro x4 s0
  unfold way_rankOf_47
  refine sr_istore (lv' := [some (vR 51), none, none, none, some (vI x4), some (vI s0), none]) (pc' := 49) dX7_rankOf_47 rfl (by decide) rfl ?_
  refine sr_iload (pc' := 51) dX7_rankOf_49 rfl rfl ?_
  refine sr_if_ne (pc' := 54) (tgt := 74) dX7_rankOf_51 rfl rfl (fun c51 => ?_) (fun c51 => ?_)
  · refine sr_aload_n (i := 0) (pc' := 55) dX7_rankOf_54 rfl rfl rfl ?_
    refine sr_getR (k := 0) (b := 1) (pc' := 58) cls_X7 dX7_rankOf_55 rfl s88_51 rfl (by decide) w_25 ?_
    refine sr_aload_n (i := 0) (pc' := 59) dX7_rankOf_58 rfl rfl rfl ?_
    refine sr_getI (k := 2) (pc' := 62) cls_X7 dX7_rankOf_59 rfl s88_51 rfl (by decide) w_26 ?_
    refine sr_iconst (pc' := 63) dX7_rankOf_62 rfl (by decide) ?_
    refine sr_callVN2_I (pc' := 66) (roa_part_sp isRoad_1 (μ 51 2) 0 μ) dX7_rankOf_63 rfl mg_X4_part mi_X4_part (Or.inl ⟨4, _, TX4, 12, isRoad_1.1, rfl⟩) ⟨Nat.le_of_ble_eq_true rfl, Nat.le_of_ble_eq_true rfl⟩ w_27 (Nat.le_of_ble_eq_true rfl) (fun u1 hu1 hcu1 hzu1 => ?_)
    refine sr_iconst (pc' := 67) dX7_rankOf_66 rfl (by decide) ?_
    refine sr_icmp_ne (pc' := 70) (tgt := 74) dX7_rankOf_67 rfl rfl (fun c67 => ?_) (fun c67 => ?_)
    · refine sr_iconst (pc' := 71) dX7_rankOf_70 rfl (by decide) ?_
      refine sr_goto (pc' := 75) dX7_rankOf_71 rfl ?_
      refine sr_fgt (fgt_s (fgt_s (fgt_s (fgt_s (fgt_n (fgt_s (fgt_s fgt_nil))))))) ?_
      exact way_rankOf_75_s μ s0 2
    · refine sr_iconst (pc' := 75) dX7_rankOf_74 rfl (by decide) ?_
      refine sr_fgt (fgt_s (fgt_s (fgt_s (fgt_s (fgt_n (fgt_s (fgt_s fgt_nil))))))) ?_
      exact way_rankOf_75_s μ s0 1
  · refine sr_iconst (pc' := 75) dX7_rankOf_74 rfl (by decide) ?_
    refine sr_fgt (fgt_s (fgt_s (fgt_s (fgt_s (fgt_n (fgt_s (fgt_s fgt_nil))))))) ?_
    exact way_rankOf_75_s μ s0 1
def way_rankOf_10 (μ : Mem)  (x1 x3 s0 : Int) : Option (Int) := if s0 = 0 then ((roa_tollOf 1 μ (μ 51 2) (iDiv x3 3) (iRem x3 3)).bind fun u1 => way_rankOf_47 μ s0 u1) else ((roa_smithAt 1 μ (iDiv x1 3)).bind fun u2 => way_rankOf_47 μ s0 u2)
theorem way_rankOf_10_s {l : Launch} {G : Nv}   (μ : Mem)   : ∀ (x1 x3 s0 : Int), SR l G S88 mX7_rankOf (way_rankOf_10 μ x1 x3 s0) (jI μ) 10 [some (vR 51), some (vI x1), none, some (vI x3), none, none, none] [vI s0] μ := by
  intro x1 x3 s0
  unfold way_rankOf_10
  refine sr_istore (lv' := [some (vR 51), some (vI x1), none, some (vI x3), some (vI s0), none, none]) (pc' := 12) dX7_rankOf_10 rfl (by decide) rfl ?_
  refine sr_iload (pc' := 14) dX7_rankOf_12 rfl rfl ?_
  refine sr_if_eq (pc' := 17) (tgt := 30) dX7_rankOf_14 rfl rfl (fun c14 => ?_) (fun c14 => ?_)
  · refine sr_aload_n (i := 0) (pc' := 31) dX7_rankOf_30 rfl rfl rfl ?_
    refine sr_getR (k := 0) (b := 1) (pc' := 34) cls_X7 dX7_rankOf_31 rfl s88_51 rfl (by decide) w_25 ?_
    refine sr_aload_n (i := 0) (pc' := 35) dX7_rankOf_34 rfl rfl rfl ?_
    refine sr_getI (k := 2) (pc' := 38) cls_X7 dX7_rankOf_35 rfl s88_51 rfl (by decide) w_26 ?_
    refine sr_iload_n (i := 3) (pc' := 39) dX7_rankOf_38 rfl rfl rfl ?_
    refine sr_iconst (pc' := 40) dX7_rankOf_39 rfl (by decide) ?_
    refine sr_idiv (pc' := 41) dX7_rankOf_40 rfl (by decide) ?_
    refine sr_iload_n (i := 3) (pc' := 42) dX7_rankOf_41 rfl rfl rfl ?_
    refine sr_iconst (pc' := 43) dX7_rankOf_42 rfl (by decide) ?_
    refine sr_irem (pc' := 44) dX7_rankOf_43 rfl (by decide) ?_
    refine sr_callVN3_I (pc' := 47) (roa_tollOf_sp isRoad_1 (μ 51 2) (iDiv x3 3) (iRem x3 3) μ) dX7_rankOf_44 rfl mg_X4_tollOf mi_X4_tollOf (Or.inl ⟨4, _, TX4, 12, isRoad_1.1, rfl⟩) ⟨Nat.le_of_ble_eq_true rfl, Nat.le_of_ble_eq_true rfl⟩ w_288 (Nat.le_of_ble_eq_true rfl) (fun u1 hu1 hcu1 hzu1 => ?_)
    refine sr_fgt (fgt_s (fgt_n (fgt_s (fgt_n (fgt_s (fgt_s (fgt_s fgt_nil))))))) ?_
    exact way_rankOf_47_s μ s0 u1
  · refine sr_aload_n (i := 0) (pc' := 18) dX7_rankOf_17 rfl rfl rfl ?_
    refine sr_getR (k := 0) (b := 1) (pc' := 21) cls_X7 dX7_rankOf_18 rfl s88_51 rfl (by decide) w_25 ?_
    refine sr_iload_n (i := 1) (pc' := 22) dX7_rankOf_21 rfl rfl rfl ?_
    refine sr_iconst (pc' := 23) dX7_rankOf_22 rfl (by decide) ?_
    refine sr_idiv (pc' := 24) dX7_rankOf_23 rfl (by decide) ?_
    refine sr_callVN1_I (pc' := 27) (roa_smithAt_sp isRoad_1 (iDiv x1 3) μ) dX7_rankOf_24 rfl mg_X4_smithAt mi_X4_smithAt (Or.inl ⟨4, _, TX4, 12, isRoad_1.1, rfl⟩) ⟨Nat.le_of_ble_eq_true rfl, Nat.le_of_ble_eq_true rfl⟩ w_38 (Nat.le_of_ble_eq_true rfl) (fun u2 hu2 hcu2 hzu2 => ?_)
    refine sr_goto (pc' := 47) dX7_rankOf_27 rfl ?_
    refine sr_fgt (fgt_s (fgt_n (fgt_s (fgt_n (fgt_s (fgt_s (fgt_s fgt_nil))))))) ?_
    exact way_rankOf_47_s μ s0 u2
def way_rankOf (μ : Mem)  (x1 x2 x3 : Int) : Option (Int) := if x2 < 2 then (way_rankOf_10 μ x1 x3 0) else (way_rankOf_10 μ x1 x3 1)
theorem way_rankOf_sp {l : Launch} {G : Nv}   (x1 x2 x3 : Int) (μ : Mem) : SP l G S88 mX7_rankOf [vR 51, vI x1, vI x2, vI x3] μ (way_rankOf μ x1 x2 x3) (jI μ) := by
  refine sp_go (lv := [some (vR 51), some (vI x1), some (vI x2), some (vI x3), none, none, none]) pn_X7 (Nat.le_of_ble_eq_true rfl) rfl ?_
  unfold way_rankOf
  refine sr_iload_n (i := 2) (pc' := 1) dX7_rankOf_0 rfl rfl rfl ?_
  refine sr_iconst (pc' := 2) dX7_rankOf_1 rfl (by decide) ?_
  refine sr_icmp_lt (pc' := 5) (tgt := 9) dX7_rankOf_2 rfl rfl (fun c2 => ?_) (fun c2 => ?_)
  · refine sr_iconst (pc' := 10) dX7_rankOf_9 rfl (by decide) ?_
    refine sr_fgt (fgt_s (fgt_s (fgt_n (fgt_s (fgt_s (fgt_s (fgt_s fgt_nil))))))) ?_
    exact way_rankOf_10_s μ x1 x3 0
  · refine sr_iconst (pc' := 6) dX7_rankOf_5 rfl (by decide) ?_
    refine sr_goto (pc' := 10) dX7_rankOf_6 rfl ?_
    refine sr_fgt (fgt_s (fgt_s (fgt_n (fgt_s (fgt_s (fgt_s (fgt_s fgt_nil))))))) ?_
    exact way_rankOf_10_s μ x1 x3 1
def way_rankBy_24 (μ : Mem)  (x1 x2 x3 s0 : Int) : Option (Int) := if s0 = 2000000000 then (some 2000000000) else ((way_rankOf μ x1 x2 x3).bind fun u1 => some (wI (s0 + u1)))
theorem way_rankBy_24_s {l : Launch} {G : Nv}   (μ : Mem)   : ∀ (x1 x2 x3 s0 : Int), SR l G S88 mX7_rankBy (way_rankBy_24 μ x1 x2 x3 s0) (jI μ) 24 [some (vR 51), some (vI x1), some (vI x2), some (vI x3), none] [vI s0] μ := by
  intro x1 x2 x3 s0
  unfold way_rankBy_24
  refine sr_istore (lv' := [some (vR 51), some (vI x1), some (vI x2), some (vI x3), some (vI s0)]) (pc' := 26) dX7_rankBy_24 rfl (by decide) rfl ?_
  refine sr_iload (pc' := 28) dX7_rankBy_26 rfl rfl ?_
  refine sr_ldc (x := 2000000000) (pc' := 30) dX7_rankBy_28 rfl (by decide) w_289 ?_
  refine sr_icmp_ne (pc' := 33) (tgt := 38) dX7_rankBy_30 rfl rfl (fun c30 => ?_) (fun c30 => ?_)
  · refine sr_ldc (x := 2000000000) (pc' := 35) dX7_rankBy_33 rfl (by decide) w_289 ?_
    refine sr_goto (pc' := 48) dX7_rankBy_35 rfl ?_
    exact sr_iretI dX7_rankBy_48 rfl rfl
  · refine sr_iload (pc' := 40) dX7_rankBy_38 rfl rfl ?_
    refine sr_aload_n (i := 0) (pc' := 41) dX7_rankBy_40 rfl rfl rfl ?_
    refine sr_iload_n (i := 1) (pc' := 42) dX7_rankBy_41 rfl rfl rfl ?_
    refine sr_iload_n (i := 2) (pc' := 43) dX7_rankBy_42 rfl rfl rfl ?_
    refine sr_iload_n (i := 3) (pc' := 44) dX7_rankBy_43 rfl rfl rfl ?_
    refine sr_callV3_I (pc' := 47) (way_rankOf_sp x1 x2 x3 μ) dX7_rankBy_44 rfl mg_X7_rankOf mi_X7_rankOf (Or.inl ⟨7, _, TX7, 4, s88_51, rfl⟩) ⟨Nat.le_of_ble_eq_true rfl, Nat.le_of_ble_eq_true rfl⟩ w_290 (Nat.le_of_ble_eq_true rfl) (fun u1 hu1 hcu1 hzu1 => ?_)
    refine sr_iadd (pc' := 48) dX7_rankBy_47 rfl ?_
    exact sr_iretI dX7_rankBy_48 rfl rfl
def way_rankBy (μ : Mem)  (x1 x2 : Int) : Option (Int) := (way_standBehind μ x1 x2).bind fun u1 => if 0 ≤ u1 then ((ww_at 52 63 μ u1).bind fun u2 => way_rankBy_24 μ x1 x2 u1 u2) else (way_rankBy_24 μ x1 x2 u1 2000000000)
theorem way_rankBy_sp {l : Launch} {G : Nv}   (x1 x2 : Int) (μ : Mem) : SP l G S88 mX7_rankBy [vR 51, vI x1, vI x2] μ (way_rankBy μ x1 x2) (jI μ) := by
  refine sp_go (lv := [some (vR 51), some (vI x1), some (vI x2), none, none]) pn_X7 (Nat.le_of_ble_eq_true rfl) rfl ?_
  unfold way_rankBy
  refine sr_aload_n (i := 0) (pc' := 1) dX7_rankBy_0 rfl rfl rfl ?_
  refine sr_iload_n (i := 1) (pc' := 2) dX7_rankBy_1 rfl rfl rfl ?_
  refine sr_iload_n (i := 2) (pc' := 3) dX7_rankBy_2 rfl rfl rfl ?_
  refine sr_callV2_I (pc' := 6) (way_standBehind_sp x1 x2 μ) dX7_rankBy_3 rfl mg_X7_standBehind mi_X7_standBehind (Or.inl ⟨7, _, TX7, 4, s88_51, rfl⟩) ⟨Nat.le_of_ble_eq_true rfl, Nat.le_of_ble_eq_true rfl⟩ w_39 (Nat.le_of_ble_eq_true rfl) (fun u1 hu1 hcu1 hzu1 => ?_)
  refine sr_istore_n (i := 3) (lv' := [some (vR 51), some (vI x1), some (vI x2), some (vI u1), none]) (pc' := 7) dX7_rankBy_6 rfl rfl (by decide) rfl ?_
  refine sr_iload_n (i := 3) (pc' := 8) dX7_rankBy_7 rfl rfl rfl ?_
  refine sr_if_ge (pc' := 11) (tgt := 16) dX7_rankBy_8 rfl rfl (fun c8 => ?_) (fun c8 => ?_)
  · refine sr_aload_n (i := 0) (pc' := 17) dX7_rankBy_16 rfl rfl rfl ?_
    refine sr_getR (k := 1) (b := 52) (pc' := 20) cls_X7 dX7_rankBy_17 rfl s88_51 rfl (by decide) w_291 ?_
    refine sr_iload_n (i := 3) (pc' := 21) dX7_rankBy_20 rfl rfl rfl ?_
    refine sr_callSN2_I (pc' := 24) (ww_at_sp s88_52 (by decide) u1 μ) dX7_rankBy_21 rfl mg_X8_at ms_X8_at ⟨Nat.le_of_ble_eq_true rfl, Nat.le_of_ble_eq_true rfl⟩ w_35 (Nat.le_of_ble_eq_true rfl) (fun u2 hu2 hcu2 hzu2 => ?_)
    exact way_rankBy_24_s μ x1 x2 u1 u2
  · refine sr_ldc (x := 2000000000) (pc' := 13) dX7_rankBy_11 rfl (by decide) w_289 ?_
    refine sr_goto (pc' := 24) dX7_rankBy_13 rfl ?_
    exact way_rankBy_24_s μ x1 x2 u1 2000000000
