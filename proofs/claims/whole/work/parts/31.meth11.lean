def mod_readPlace   (x1 : Int) (μ : Mem) : Option (Mem) := (mod_readYard μ).bind fun u1 => (mod_readNumber 0 2 u1.2).bind fun u2 => if x1 = 4 then ((mod_readNumber 0 9 u2.2).bind fun u3 => (stx u3.2 72 63 (wI ((wI (3 * u1.1)) + u2.1)) u3.1).bind fun μ4 => some μ4) else ((mod_readNumber 0 99 u2.2).bind fun u5 => (stx u5.2 68 185 (wI ((wI (36 + (wI (3 * u1.1)))) + u2.1)) u5.1).bind fun μ6 => (stx μ6 73 63 (wI ((wI (3 * u1.1)) + u2.1)) (zN 1)).bind fun μ7 => some μ7)
theorem mod_readPlace_sp {l : Launch} {G : Nv}   (x1 : Int) (μ : Mem) : SP l G S88 mX9_readPlace [vR 61, vI x1] μ (mod_readPlace x1 μ) jM := by
  refine sp_go (lv := [some (vR 61), some (vI x1), none, none]) pn_X9 (Nat.le_of_ble_eq_true rfl) rfl ?_
  unfold mod_readPlace
  refine sr_aload_n (i := 0) (pc' := 1) dX9_readPlace_0 rfl rfl rfl ?_
  refine sr_callV0_IM (pc' := 4) (mod_readYard_sp μ) dX9_readPlace_1 rfl mg_X9_readYard mi_X9_readYard (Or.inl ⟨9, _, TX9, 40, s88_61, rfl⟩) ⟨Nat.le_of_ble_eq_true rfl, Nat.le_of_ble_eq_true rfl⟩ w_409 (Nat.le_of_ble_eq_true rfl) (fun u1 hu1 hcu1 hzu1 => ?_)
  refine sr_istore_n (i := 2) (lv' := [some (vR 61), some (vI x1), some (vI u1.1), none]) (pc' := 5) dX9_readPlace_4 rfl rfl (by decide) rfl ?_
  refine sr_aload_n (i := 0) (pc' := 6) dX9_readPlace_5 rfl rfl rfl ?_
  refine sr_iconst (pc' := 7) dX9_readPlace_6 rfl (by decide) ?_
  refine sr_iconst (pc' := 8) dX9_readPlace_7 rfl (by decide) ?_
  refine sr_callV2_IM (pc' := 11) (mod_readNumber_sp 0 2 u1.2) dX9_readPlace_8 rfl mg_X9_readNumber mi_X9_readNumber (Or.inl ⟨9, _, TX9, 40, s88_61, rfl⟩) ⟨Nat.le_of_ble_eq_true rfl, Nat.le_of_ble_eq_true rfl⟩ w_408 (Nat.le_of_ble_eq_true rfl) (fun u2 hu2 hcu2 hzu2 => ?_)
  refine sr_istore_n (i := 3) (lv' := [some (vR 61), some (vI x1), some (vI u1.1), some (vI u2.1)]) (pc' := 12) dX9_readPlace_11 rfl rfl (by decide) rfl ?_
  refine sr_iload_n (i := 1) (pc' := 13) dX9_readPlace_12 rfl rfl rfl ?_
  refine sr_iconst (pc' := 14) dX9_readPlace_13 rfl (by decide) ?_
  refine sr_icmp_ne (pc' := 17) (tgt := 37) dX9_readPlace_14 rfl rfl (fun c14 => ?_) (fun c14 => ?_)
  · refine sr_aload_n (i := 0) (pc' := 18) dX9_readPlace_17 rfl rfl rfl ?_
    refine sr_getR (k := 12) (b := 72) (pc' := 21) cls_X9 dX9_readPlace_18 rfl s88_61 rfl (by decide) w_370 ?_
    refine sr_iconst (pc' := 22) dX9_readPlace_21 rfl (by decide) ?_
    refine sr_iload_n (i := 2) (pc' := 23) dX9_readPlace_22 rfl rfl rfl ?_
    refine sr_imul (pc' := 24) dX9_readPlace_23 rfl ?_
    refine sr_iload_n (i := 3) (pc' := 25) dX9_readPlace_24 rfl rfl rfl ?_
    refine sr_iadd (pc' := 26) dX9_readPlace_25 rfl ?_
    refine sr_aload_n (i := 0) (pc' := 27) dX9_readPlace_26 rfl rfl rfl ?_
    refine sr_iconst (pc' := 28) dX9_readPlace_27 rfl (by decide) ?_
    refine sr_bipush (pc' := 30) dX9_readPlace_28 rfl (by decide) (by decide) ?_
    refine sr_callV2_IM (pc' := 33) (mod_readNumber_sp 0 9 u2.2) dX9_readPlace_30 rfl mg_X9_readNumber mi_X9_readNumber (Or.inl ⟨9, _, TX9, 40, s88_61, rfl⟩) ⟨Nat.le_of_ble_eq_true rfl, Nat.le_of_ble_eq_true rfl⟩ w_408 (Nat.le_of_ble_eq_true rfl) (fun u3 hu3 hcu3 hzu3 => ?_)
    refine sr_iast (pc' := 34) dX9_readPlace_33 rfl s88_72 (by decide) (fun μ4 hμ4 hμ4a hμ4b => ?_)
    refine sr_goto (pc' := 68) dX9_readPlace_34 rfl ?_
    exact sr_ret dX9_readPlace_68 rfl rfl
  · refine sr_aload_n (i := 0) (pc' := 38) dX9_readPlace_37 rfl rfl rfl ?_
    refine sr_getR (k := 7) (b := 68) (pc' := 41) cls_X9 dX9_readPlace_38 rfl s88_61 rfl (by decide) w_377 ?_
    refine sr_bipush (pc' := 43) dX9_readPlace_41 rfl (by decide) (by decide) ?_
    refine sr_iconst (pc' := 44) dX9_readPlace_43 rfl (by decide) ?_
    refine sr_iload_n (i := 2) (pc' := 45) dX9_readPlace_44 rfl rfl rfl ?_
    refine sr_imul (pc' := 46) dX9_readPlace_45 rfl ?_
    refine sr_iadd (pc' := 47) dX9_readPlace_46 rfl ?_
    refine sr_iload_n (i := 3) (pc' := 48) dX9_readPlace_47 rfl rfl rfl ?_
    refine sr_iadd (pc' := 49) dX9_readPlace_48 rfl ?_
    refine sr_aload_n (i := 0) (pc' := 50) dX9_readPlace_49 rfl rfl rfl ?_
    refine sr_iconst (pc' := 51) dX9_readPlace_50 rfl (by decide) ?_
    refine sr_bipush (pc' := 53) dX9_readPlace_51 rfl (by decide) (by decide) ?_
    refine sr_callV2_IM (pc' := 56) (mod_readNumber_sp 0 99 u2.2) dX9_readPlace_53 rfl mg_X9_readNumber mi_X9_readNumber (Or.inl ⟨9, _, TX9, 40, s88_61, rfl⟩) ⟨Nat.le_of_ble_eq_true rfl, Nat.le_of_ble_eq_true rfl⟩ w_408 (Nat.le_of_ble_eq_true rfl) (fun u5 hu5 hcu5 hzu5 => ?_)
    refine sr_iast (pc' := 57) dX9_readPlace_56 rfl s88_68 (by decide) (fun μ6 hμ6 hμ6a hμ6b => ?_)
    refine sr_aload_n (i := 0) (pc' := 58) dX9_readPlace_57 rfl rfl rfl ?_
    refine sr_getR (k := 13) (b := 73) (pc' := 61) cls_X9 dX9_readPlace_58 rfl s88_61 rfl (by decide) w_333 ?_
    refine sr_iconst (pc' := 62) dX9_readPlace_61 rfl (by decide) ?_
    refine sr_iload_n (i := 2) (pc' := 63) dX9_readPlace_62 rfl rfl rfl ?_
    refine sr_imul (pc' := 64) dX9_readPlace_63 rfl ?_
    refine sr_iload_n (i := 3) (pc' := 65) dX9_readPlace_64 rfl rfl rfl ?_
    refine sr_iadd (pc' := 66) dX9_readPlace_65 rfl ?_
    refine sr_iconst (pc' := 67) dX9_readPlace_66 rfl (by decide) ?_
    refine sr_zast (pc' := 68) dX9_readPlace_67 rfl s88_73 (by decide) (fun μ7 hμ7 hμ7a hμ7b => ?_)
    exact sr_ret dX9_readPlace_68 rfl rfl
def mod_readOther_32   (x2 s1 : Int) (μ : Mem) : Option (Mem) := (mod_needs s1 4 μ).bind fun μ1 => (stx μ1 68 185 (wI (99 + x2)) 1).bind fun μ2 => (mod_next μ2).bind fun μ3 => some μ3
theorem mod_readOther_32_s {l : Launch} {G : Nv}     : ∀ (x2 s1 : Int) (μ : Mem), SR l G S88 mX9_readOther (mod_readOther_32 x2 s1 μ) jM 32 [some (vR 61), none, some (vI x2)] [vI s1, vR 61] μ := by
  intro x2 s1 μ
  unfold mod_readOther_32
  refine sr_iconst (pc' := 33) dX9_readOther_32 rfl (by decide) ?_
  refine sr_callV2_M (pc' := 36) (mod_needs_sp s1 4 μ) dX9_readOther_33 rfl mg_X9_needs mi_X9_needs (Or.inl ⟨9, _, TX9, 40, s88_61, rfl⟩) ⟨Nat.le_of_ble_eq_true rfl, Nat.le_of_ble_eq_true rfl⟩ w_390 (Nat.le_of_ble_eq_true rfl) (fun μ1 hμ1 => ?_)
  refine sr_aload_n (i := 0) (pc' := 37) dX9_readOther_36 rfl rfl rfl ?_
  refine sr_getR (k := 7) (b := 68) (pc' := 40) cls_X9 dX9_readOther_37 rfl s88_61 rfl (by decide) w_377 ?_
  refine sr_bipush (pc' := 42) dX9_readOther_40 rfl (by decide) (by decide) ?_
  refine sr_iload_n (i := 2) (pc' := 43) dX9_readOther_42 rfl rfl rfl ?_
  refine sr_iadd (pc' := 44) dX9_readOther_43 rfl ?_
  refine sr_iconst (pc' := 45) dX9_readOther_44 rfl (by decide) ?_
  refine sr_iast (pc' := 46) dX9_readOther_45 rfl s88_68 (by decide) (fun μ2 hμ2 hμ2a hμ2b => ?_)
  refine sr_aload_n (i := 0) (pc' := 47) dX9_readOther_46 rfl rfl rfl ?_
  refine sr_callV0_M (pc' := 50) (mod_next_sp μ2) dX9_readOther_47 rfl mg_X9_next mi_X9_next (Or.inl ⟨9, _, TX9, 40, s88_61, rfl⟩) ⟨Nat.le_of_ble_eq_true rfl, Nat.le_of_ble_eq_true rfl⟩ w_406 (Nat.le_of_ble_eq_true rfl) (fun μ3 hμ3 => ?_)
  refine sr_goto (pc' := 140) dX9_readOther_50 rfl ?_
  exact sr_ret dX9_readOther_140 rfl rfl
def mod_readOther_84   (x2 s1 : Int) (μ : Mem) : Option (Mem) := (mod_needs s1 4 μ).bind fun μ1 => bnd (mset μ1 61 15 (iOr (μ1 61 15) (iShl 1 x2))) fun μ2 => (mod_next μ2).bind fun μ3 => (mod_readNumber 0 60 μ3).bind fun u4 => (stx u4.2 68 185 (wI (160 + x2)) u4.1).bind fun μ5 => some μ5
theorem mod_readOther_84_s {l : Launch} {G : Nv}     : ∀ (x2 s1 : Int) (μ : Mem), SR l G S88 mX9_readOther (mod_readOther_84 x2 s1 μ) jM 84 [some (vR 61), none, some (vI x2)] [vI s1, vR 61] μ := by
  intro x2 s1 μ
  unfold mod_readOther_84
  refine sr_iconst (pc' := 85) dX9_readOther_84 rfl (by decide) ?_
  refine sr_callV2_M (pc' := 88) (mod_needs_sp s1 4 μ) dX9_readOther_85 rfl mg_X9_needs mi_X9_needs (Or.inl ⟨9, _, TX9, 40, s88_61, rfl⟩) ⟨Nat.le_of_ble_eq_true rfl, Nat.le_of_ble_eq_true rfl⟩ w_390 (Nat.le_of_ble_eq_true rfl) (fun μ1 hμ1 => ?_)
  refine sr_aload_n (i := 0) (pc' := 89) dX9_readOther_88 rfl rfl rfl ?_
  refine sr_dup (pc' := 90) dX9_readOther_89 rfl rfl ?_
  refine sr_getI (k := 15) (pc' := 93) cls_X9 dX9_readOther_90 rfl s88_61 rfl (by decide) w_373 ?_
  refine sr_iconst (pc' := 94) dX9_readOther_93 rfl (by decide) ?_
  refine sr_iload_n (i := 2) (pc' := 95) dX9_readOther_94 rfl rfl rfl ?_
  refine sr_ishl (pc' := 96) dX9_readOther_95 rfl ?_
  refine sr_ior (pc' := 97) dX9_readOther_96 rfl ?_
  refine sr_putI (k := 15) (pc' := 100) cls_X9 dX9_readOther_97 rfl s88_61 rfl (by decide) w_373 rfl rfl (fun μ2 hμ2 => ?_)
  refine sr_aload_n (i := 0) (pc' := 101) dX9_readOther_100 rfl rfl rfl ?_
  refine sr_callV0_M (pc' := 104) (mod_next_sp μ2) dX9_readOther_101 rfl mg_X9_next mi_X9_next (Or.inl ⟨9, _, TX9, 40, s88_61, rfl⟩) ⟨Nat.le_of_ble_eq_true rfl, Nat.le_of_ble_eq_true rfl⟩ w_406 (Nat.le_of_ble_eq_true rfl) (fun μ3 hμ3 => ?_)
  refine sr_aload_n (i := 0) (pc' := 105) dX9_readOther_104 rfl rfl rfl ?_
  refine sr_getR (k := 7) (b := 68) (pc' := 108) cls_X9 dX9_readOther_105 rfl s88_61 rfl (by decide) w_377 ?_
  refine sr_sipush (pc' := 111) dX9_readOther_108 rfl (by decide) (by decide) ?_
  refine sr_iload_n (i := 2) (pc' := 112) dX9_readOther_111 rfl rfl rfl ?_
  refine sr_iadd (pc' := 113) dX9_readOther_112 rfl ?_
  refine sr_aload_n (i := 0) (pc' := 114) dX9_readOther_113 rfl rfl rfl ?_
  refine sr_iconst (pc' := 115) dX9_readOther_114 rfl (by decide) ?_
  refine sr_bipush (pc' := 117) dX9_readOther_115 rfl (by decide) (by decide) ?_
  refine sr_callV2_IM (pc' := 120) (mod_readNumber_sp 0 60 μ3) dX9_readOther_117 rfl mg_X9_readNumber mi_X9_readNumber (Or.inl ⟨9, _, TX9, 40, s88_61, rfl⟩) ⟨Nat.le_of_ble_eq_true rfl, Nat.le_of_ble_eq_true rfl⟩ w_408 (Nat.le_of_ble_eq_true rfl) (fun u4 hu4 hcu4 hzu4 => ?_)
  refine sr_iast (pc' := 121) dX9_readOther_120 rfl s88_68 (by decide) (fun μ5 hμ5 hμ5a hμ5b => ?_)
  refine sr_goto (pc' := 140) dX9_readOther_121 rfl ?_
  exact sr_ret dX9_readOther_140 rfl rfl
def mod_readOther   (x1 : Int) (μ : Mem) : Option (Mem) := if x1 = 6 then ((mod_looked 1 60 μ).bind fun u1 => (ld u1.2 68 185 (wI (99 + u1.1))).bind fun v2 => if v2 = 0 then (mod_readOther_32 u1.1 1 u1.2) else (mod_readOther_32 u1.1 0 u1.2)) else (if x1 = 8 then ((mod_looked 1 7 μ).bind fun u3 => if (iAnd (iShr (u3.2 61 15) u3.1) 1) = 0 then (mod_readOther_84 u3.1 1 u3.2) else (mod_readOther_84 u3.1 0 u3.2)) else (bnd (mset μ 61 14 1) fun μ4 => (mod_readNumber 2 20 μ4).bind fun u5 => bnd (mset u5.2 61 8 u5.1) fun μ6 => some μ6))
theorem mod_readOther_sp {l : Launch} {G : Nv}   (x1 : Int) (μ : Mem) : SP l G S88 mX9_readOther [vR 61, vI x1] μ (mod_readOther x1 μ) jM := by
  refine sp_go (lv := [some (vR 61), some (vI x1), none]) pn_X9 (Nat.le_of_ble_eq_true rfl) rfl ?_
  unfold mod_readOther
  refine sr_iload_n (i := 1) (pc' := 1) dX9_readOther_0 rfl rfl rfl ?_
  refine sr_bipush (pc' := 3) dX9_readOther_1 rfl (by decide) (by decide) ?_
  refine sr_icmp_ne (pc' := 6) (tgt := 53) dX9_readOther_3 rfl rfl (fun c3 => ?_) (fun c3 => ?_)
  · refine sr_aload_n (i := 0) (pc' := 7) dX9_readOther_6 rfl rfl rfl ?_
    refine sr_iconst (pc' := 8) dX9_readOther_7 rfl (by decide) ?_
    refine sr_bipush (pc' := 10) dX9_readOther_8 rfl (by decide) (by decide) ?_
    refine sr_callV2_IM (pc' := 13) (mod_looked_sp 1 60 μ) dX9_readOther_10 rfl mg_X9_looked mi_X9_looked (Or.inl ⟨9, _, TX9, 40, s88_61, rfl⟩) ⟨Nat.le_of_ble_eq_true rfl, Nat.le_of_ble_eq_true rfl⟩ w_393 (Nat.le_of_ble_eq_true rfl) (fun u1 hu1 hcu1 hzu1 => ?_)
    refine sr_istore_n (i := 2) (lv' := [some (vR 61), some (vI x1), some (vI u1.1)]) (pc' := 14) dX9_readOther_13 rfl rfl (by decide) rfl ?_
    refine sr_aload_n (i := 0) (pc' := 15) dX9_readOther_14 rfl rfl rfl ?_
    refine sr_aload_n (i := 0) (pc' := 16) dX9_readOther_15 rfl rfl rfl ?_
    refine sr_getR (k := 7) (b := 68) (pc' := 19) cls_X9 dX9_readOther_16 rfl s88_61 rfl (by decide) w_377 ?_
    refine sr_bipush (pc' := 21) dX9_readOther_19 rfl (by decide) (by decide) ?_
    refine sr_iload_n (i := 2) (pc' := 22) dX9_readOther_21 rfl rfl rfl ?_
    refine sr_iadd (pc' := 23) dX9_readOther_22 rfl ?_
    refine sr_iald (pc' := 24) dX9_readOther_23 rfl s88_68 (by decide) (fun v2 hv2 hv2a hv2b => ?_)
    refine sr_if_ne (pc' := 27) (tgt := 31) dX9_readOther_24 rfl rfl (fun c24 => ?_) (fun c24 => ?_)
    · refine sr_iconst (pc' := 28) dX9_readOther_27 rfl (by decide) ?_
      refine sr_goto (pc' := 32) dX9_readOther_28 rfl ?_
      refine sr_fgt (fgt_s (fgt_n (fgt_s fgt_nil))) ?_
      exact mod_readOther_32_s u1.1 1 u1.2
    · refine sr_iconst (pc' := 32) dX9_readOther_31 rfl (by decide) ?_
      refine sr_fgt (fgt_s (fgt_n (fgt_s fgt_nil))) ?_
      exact mod_readOther_32_s u1.1 0 u1.2
  · refine sr_iload_n (i := 1) (pc' := 54) dX9_readOther_53 rfl rfl rfl ?_
    refine sr_bipush (pc' := 56) dX9_readOther_54 rfl (by decide) (by decide) ?_
    refine sr_icmp_ne (pc' := 59) (tgt := 124) dX9_readOther_56 rfl rfl (fun c56 => ?_) (fun c56 => ?_)
    · refine sr_aload_n (i := 0) (pc' := 60) dX9_readOther_59 rfl rfl rfl ?_
      refine sr_iconst (pc' := 61) dX9_readOther_60 rfl (by decide) ?_
      refine sr_bipush (pc' := 63) dX9_readOther_61 rfl (by decide) (by decide) ?_
      refine sr_callV2_IM (pc' := 66) (mod_looked_sp 1 7 μ) dX9_readOther_63 rfl mg_X9_looked mi_X9_looked (Or.inl ⟨9, _, TX9, 40, s88_61, rfl⟩) ⟨Nat.le_of_ble_eq_true rfl, Nat.le_of_ble_eq_true rfl⟩ w_393 (Nat.le_of_ble_eq_true rfl) (fun u3 hu3 hcu3 hzu3 => ?_)
      refine sr_istore_n (i := 2) (lv' := [some (vR 61), some (vI x1), some (vI u3.1)]) (pc' := 67) dX9_readOther_66 rfl rfl (by decide) rfl ?_
      refine sr_aload_n (i := 0) (pc' := 68) dX9_readOther_67 rfl rfl rfl ?_
      refine sr_aload_n (i := 0) (pc' := 69) dX9_readOther_68 rfl rfl rfl ?_
      refine sr_getI (k := 15) (pc' := 72) cls_X9 dX9_readOther_69 rfl s88_61 rfl (by decide) w_373 ?_
      refine sr_iload_n (i := 2) (pc' := 73) dX9_readOther_72 rfl rfl rfl ?_
      refine sr_ishr (pc' := 74) dX9_readOther_73 rfl ?_
      refine sr_iconst (pc' := 75) dX9_readOther_74 rfl (by decide) ?_
      refine sr_iand (pc' := 76) dX9_readOther_75 rfl ?_
      refine sr_if_ne (pc' := 79) (tgt := 83) dX9_readOther_76 rfl rfl (fun c76 => ?_) (fun c76 => ?_)
      · refine sr_iconst (pc' := 80) dX9_readOther_79 rfl (by decide) ?_
        refine sr_goto (pc' := 84) dX9_readOther_80 rfl ?_
        refine sr_fgt (fgt_s (fgt_n (fgt_s fgt_nil))) ?_
        exact mod_readOther_84_s u3.1 1 u3.2
      · refine sr_iconst (pc' := 84) dX9_readOther_83 rfl (by decide) ?_
        refine sr_fgt (fgt_s (fgt_n (fgt_s fgt_nil))) ?_
        exact mod_readOther_84_s u3.1 0 u3.2
    · refine sr_aload_n (i := 0) (pc' := 125) dX9_readOther_124 rfl rfl rfl ?_
      refine sr_iconst (pc' := 126) dX9_readOther_125 rfl (by decide) ?_
      refine sr_putZ (k := 14) (pc' := 129) cls_X9 dX9_readOther_126 rfl s88_61 rfl (by decide) w_372 rfl rfl (Or.inr rfl) (fun μ4 hμ4 => ?_)
      refine sr_aload_n (i := 0) (pc' := 130) dX9_readOther_129 rfl rfl rfl ?_
      refine sr_aload_n (i := 0) (pc' := 131) dX9_readOther_130 rfl rfl rfl ?_
      refine sr_iconst (pc' := 132) dX9_readOther_131 rfl (by decide) ?_
      refine sr_bipush (pc' := 134) dX9_readOther_132 rfl (by decide) (by decide) ?_
      refine sr_callV2_IM (pc' := 137) (mod_readNumber_sp 2 20 μ4) dX9_readOther_134 rfl mg_X9_readNumber mi_X9_readNumber (Or.inl ⟨9, _, TX9, 40, s88_61, rfl⟩) ⟨Nat.le_of_ble_eq_true rfl, Nat.le_of_ble_eq_true rfl⟩ w_408 (Nat.le_of_ble_eq_true rfl) (fun u5 hu5 hcu5 hzu5 => ?_)
      refine sr_putI (k := 8) (pc' := 140) cls_X9 dX9_readOther_137 rfl s88_61 rfl (by decide) w_371 rfl rfl (fun μ6 hμ6 => ?_)
      exact sr_ret dX9_readOther_140 rfl rfl
def mod_readLineOf_64   (x2 s1 : Int) (μ : Mem) : Option (Mem) := (mod_needs s1 4 μ).bind fun μ1 => (stx μ1 69 21 x2 (zN 1)).bind fun μ2 => (mod_next μ2).bind fun μ3 => some μ3
theorem mod_readLineOf_64_s {l : Launch} {G : Nv}     : ∀ (x2 s1 : Int) (μ : Mem), SR l G S88 mX9_readLineOf (mod_readLineOf_64 x2 s1 μ) jM 64 [some (vR 61), none, some (vI x2)] [vI s1, vR 61] μ := by
  intro x2 s1 μ
  unfold mod_readLineOf_64
  refine sr_iconst (pc' := 65) dX9_readLineOf_64 rfl (by decide) ?_
  refine sr_callV2_M (pc' := 68) (mod_needs_sp s1 4 μ) dX9_readLineOf_65 rfl mg_X9_needs mi_X9_needs (Or.inl ⟨9, _, TX9, 40, s88_61, rfl⟩) ⟨Nat.le_of_ble_eq_true rfl, Nat.le_of_ble_eq_true rfl⟩ w_390 (Nat.le_of_ble_eq_true rfl) (fun μ1 hμ1 => ?_)
  refine sr_aload_n (i := 0) (pc' := 69) dX9_readLineOf_68 rfl rfl rfl ?_
  refine sr_getR (k := 9) (b := 69) (pc' := 72) cls_X9 dX9_readLineOf_69 rfl s88_61 rfl (by decide) w_375 ?_
  refine sr_iload_n (i := 2) (pc' := 73) dX9_readLineOf_72 rfl rfl rfl ?_
  refine sr_iconst (pc' := 74) dX9_readLineOf_73 rfl (by decide) ?_
  refine sr_zast (pc' := 75) dX9_readLineOf_74 rfl s88_69 (by decide) (fun μ2 hμ2 hμ2a hμ2b => ?_)
  refine sr_aload_n (i := 0) (pc' := 76) dX9_readLineOf_75 rfl rfl rfl ?_
  refine sr_callV0_M (pc' := 79) (mod_next_sp μ2) dX9_readLineOf_76 rfl mg_X9_next mi_X9_next (Or.inl ⟨9, _, TX9, 40, s88_61, rfl⟩) ⟨Nat.le_of_ble_eq_true rfl, Nat.le_of_ble_eq_true rfl⟩ w_406 (Nat.le_of_ble_eq_true rfl) (fun μ3 hμ3 => ?_)
  refine sr_goto (pc' := 193) dX9_readLineOf_79 rfl ?_
  exact sr_ret dX9_readLineOf_193 rfl rfl
def mod_readLineOf_104   (x2 s1 : Int) (μ : Mem) : Option (Mem) := (mod_needs s1 4 μ).bind fun μ1 => (mod_next μ1).bind fun μ2 => (mod_readNumber 0 2 μ2).bind fun u3 => (stx u3.2 70 21 x2 u3.1).bind fun μ4 => some μ4
theorem mod_readLineOf_104_s {l : Launch} {G : Nv}     : ∀ (x2 s1 : Int) (μ : Mem), SR l G S88 mX9_readLineOf (mod_readLineOf_104 x2 s1 μ) jM 104 [some (vR 61), none, some (vI x2)] [vI s1, vR 61] μ := by
  intro x2 s1 μ
  unfold mod_readLineOf_104
  refine sr_iconst (pc' := 105) dX9_readLineOf_104 rfl (by decide) ?_
  refine sr_callV2_M (pc' := 108) (mod_needs_sp s1 4 μ) dX9_readLineOf_105 rfl mg_X9_needs mi_X9_needs (Or.inl ⟨9, _, TX9, 40, s88_61, rfl⟩) ⟨Nat.le_of_ble_eq_true rfl, Nat.le_of_ble_eq_true rfl⟩ w_390 (Nat.le_of_ble_eq_true rfl) (fun μ1 hμ1 => ?_)
  refine sr_aload_n (i := 0) (pc' := 109) dX9_readLineOf_108 rfl rfl rfl ?_
  refine sr_callV0_M (pc' := 112) (mod_next_sp μ1) dX9_readLineOf_109 rfl mg_X9_next mi_X9_next (Or.inl ⟨9, _, TX9, 40, s88_61, rfl⟩) ⟨Nat.le_of_ble_eq_true rfl, Nat.le_of_ble_eq_true rfl⟩ w_406 (Nat.le_of_ble_eq_true rfl) (fun μ2 hμ2 => ?_)
  refine sr_aload_n (i := 0) (pc' := 113) dX9_readLineOf_112 rfl rfl rfl ?_
  refine sr_getR (k := 10) (b := 70) (pc' := 116) cls_X9 dX9_readLineOf_113 rfl s88_61 rfl (by decide) w_334 ?_
  refine sr_iload_n (i := 2) (pc' := 117) dX9_readLineOf_116 rfl rfl rfl ?_
  refine sr_aload_n (i := 0) (pc' := 118) dX9_readLineOf_117 rfl rfl rfl ?_
  refine sr_iconst (pc' := 119) dX9_readLineOf_118 rfl (by decide) ?_
  refine sr_iconst (pc' := 120) dX9_readLineOf_119 rfl (by decide) ?_
  refine sr_callV2_IM (pc' := 123) (mod_readNumber_sp 0 2 μ2) dX9_readLineOf_120 rfl mg_X9_readNumber mi_X9_readNumber (Or.inl ⟨9, _, TX9, 40, s88_61, rfl⟩) ⟨Nat.le_of_ble_eq_true rfl, Nat.le_of_ble_eq_true rfl⟩ w_408 (Nat.le_of_ble_eq_true rfl) (fun u3 hu3 hcu3 hzu3 => ?_)
  refine sr_iast (pc' := 124) dX9_readLineOf_123 rfl s88_70 (by decide) (fun μ4 hμ4 hμ4a hμ4b => ?_)
  refine sr_goto (pc' := 193) dX9_readLineOf_124 rfl ?_
  exact sr_ret dX9_readLineOf_193 rfl rfl
def mod_readLineOf_149   (x2 s1 : Int) (μ : Mem) : Option (Mem) := (mod_needs s1 4 μ).bind fun μ1 => (mod_next μ1).bind fun μ2 => (mod_readNumber 0 9 μ2).bind fun u3 => (stx u3.2 71 21 x2 u3.1).bind fun μ4 => some μ4
theorem mod_readLineOf_149_s {l : Launch} {G : Nv}     : ∀ (x2 s1 : Int) (μ : Mem), SR l G S88 mX9_readLineOf (mod_readLineOf_149 x2 s1 μ) jM 149 [some (vR 61), none, some (vI x2)] [vI s1, vR 61] μ := by
  intro x2 s1 μ
  unfold mod_readLineOf_149
  refine sr_iconst (pc' := 150) dX9_readLineOf_149 rfl (by decide) ?_
  refine sr_callV2_M (pc' := 153) (mod_needs_sp s1 4 μ) dX9_readLineOf_150 rfl mg_X9_needs mi_X9_needs (Or.inl ⟨9, _, TX9, 40, s88_61, rfl⟩) ⟨Nat.le_of_ble_eq_true rfl, Nat.le_of_ble_eq_true rfl⟩ w_390 (Nat.le_of_ble_eq_true rfl) (fun μ1 hμ1 => ?_)
  refine sr_aload_n (i := 0) (pc' := 154) dX9_readLineOf_153 rfl rfl rfl ?_
  refine sr_callV0_M (pc' := 157) (mod_next_sp μ1) dX9_readLineOf_154 rfl mg_X9_next mi_X9_next (Or.inl ⟨9, _, TX9, 40, s88_61, rfl⟩) ⟨Nat.le_of_ble_eq_true rfl, Nat.le_of_ble_eq_true rfl⟩ w_406 (Nat.le_of_ble_eq_true rfl) (fun μ2 hμ2 => ?_)
  refine sr_aload_n (i := 0) (pc' := 158) dX9_readLineOf_157 rfl rfl rfl ?_
  refine sr_getR (k := 11) (b := 71) (pc' := 161) cls_X9 dX9_readLineOf_158 rfl s88_61 rfl (by decide) w_376 ?_
  refine sr_iload_n (i := 2) (pc' := 162) dX9_readLineOf_161 rfl rfl rfl ?_
  refine sr_aload_n (i := 0) (pc' := 163) dX9_readLineOf_162 rfl rfl rfl ?_
  refine sr_iconst (pc' := 164) dX9_readLineOf_163 rfl (by decide) ?_
  refine sr_bipush (pc' := 166) dX9_readLineOf_164 rfl (by decide) (by decide) ?_
  refine sr_callV2_IM (pc' := 169) (mod_readNumber_sp 0 9 μ2) dX9_readLineOf_166 rfl mg_X9_readNumber mi_X9_readNumber (Or.inl ⟨9, _, TX9, 40, s88_61, rfl⟩) ⟨Nat.le_of_ble_eq_true rfl, Nat.le_of_ble_eq_true rfl⟩ w_408 (Nat.le_of_ble_eq_true rfl) (fun u3 hu3 hcu3 hzu3 => ?_)
  refine sr_iast (pc' := 170) dX9_readLineOf_169 rfl s88_71 (by decide) (fun μ4 hμ4 hμ4a hμ4b => ?_)
  refine sr_goto (pc' := 193) dX9_readLineOf_170 rfl ?_
  exact sr_ret dX9_readLineOf_193 rfl rfl
def mod_readLineOf   (x1 : Int) (μ : Mem) : Option (Mem) := if x1 = 1 then ((mod_lookedYard μ).bind fun u1 => (ld u1.2 69 21 u1.1).bind fun v2 => if v2 = 0 then (mod_readLineOf_64 u1.1 1 u1.2) else (mod_readLineOf_64 u1.1 0 u1.2)) else if x1 = 2 then ((mod_lookedYard μ).bind fun u3 => (ld u3.2 70 21 u3.1).bind fun v4 => if v4 = (-4) then (mod_readLineOf_104 u3.1 1 u3.2) else (mod_readLineOf_104 u3.1 0 u3.2)) else if x1 = 3 then ((mod_lookedYard μ).bind fun u5 => (ld u5.2 71 21 u5.1).bind fun v6 => if v6 = (-4) then (mod_readLineOf_149 u5.1 1 u5.2) else (mod_readLineOf_149 u5.1 0 u5.2)) else if x1 = 4 then ((mod_readPlace x1 μ).bind fun μ7 => some μ7) else if x1 = 5 then ((mod_readPlace x1 μ).bind fun μ8 => some μ8) else if x1 = 7 then ((mod_readCart μ).bind fun μ9 => some μ9) else ((mod_readOther x1 μ).bind fun μ10 => some μ10)
theorem mod_readLineOf_sp {l : Launch} {G : Nv}   (x1 : Int) (μ : Mem) : SP l G S88 mX9_readLineOf [vR 61, vI x1] μ (mod_readLineOf x1 μ) jM := by
  refine sp_go (lv := [some (vR 61), some (vI x1), none]) pn_X9 (Nat.le_of_ble_eq_true rfl) rfl ?_
  unfold mod_readLineOf
  refine sr_iload_n (i := 1) (pc' := 1) dX9_readLineOf_0 rfl rfl rfl ?_
  refine sr_ite (fun c1_0 => ?_) (fun c1_0 => ?_)
  · refine sr_swIn (j := 0) (tgt := 44) dX9_readLineOf_1 (by omega) (by omega) rfl rfl ?_
    refine sr_aload_n (i := 0) (pc' := 45) dX9_readLineOf_44 rfl rfl rfl ?_
    refine sr_callV0_IM (pc' := 48) (mod_lookedYard_sp μ) dX9_readLineOf_45 rfl mg_X9_lookedYard mi_X9_lookedYard (Or.inl ⟨9, _, TX9, 40, s88_61, rfl⟩) ⟨Nat.le_of_ble_eq_true rfl, Nat.le_of_ble_eq_true rfl⟩ w_407 (Nat.le_of_ble_eq_true rfl) (fun u1 hu1 hcu1 hzu1 => ?_)
    refine sr_istore_n (i := 2) (lv' := [some (vR 61), some (vI x1), some (vI u1.1)]) (pc' := 49) dX9_readLineOf_48 rfl rfl (by decide) rfl ?_
    refine sr_aload_n (i := 0) (pc' := 50) dX9_readLineOf_49 rfl rfl rfl ?_
    refine sr_aload_n (i := 0) (pc' := 51) dX9_readLineOf_50 rfl rfl rfl ?_
    refine sr_getR (k := 9) (b := 69) (pc' := 54) cls_X9 dX9_readLineOf_51 rfl s88_61 rfl (by decide) w_375 ?_
    refine sr_iload_n (i := 2) (pc' := 55) dX9_readLineOf_54 rfl rfl rfl ?_
    refine sr_zald (pc' := 56) dX9_readLineOf_55 rfl s88_69 (by decide) (fun v2 hv2 hv2a hv2b => ?_)
    refine sr_if_ne (pc' := 59) (tgt := 63) dX9_readLineOf_56 rfl rfl (fun c56 => ?_) (fun c56 => ?_)
    · refine sr_iconst (pc' := 60) dX9_readLineOf_59 rfl (by decide) ?_
      refine sr_goto (pc' := 64) dX9_readLineOf_60 rfl ?_
      refine sr_fgt (fgt_s (fgt_n (fgt_s fgt_nil))) ?_
      exact mod_readLineOf_64_s u1.1 1 u1.2
    · refine sr_iconst (pc' := 64) dX9_readLineOf_63 rfl (by decide) ?_
      refine sr_fgt (fgt_s (fgt_n (fgt_s fgt_nil))) ?_
      exact mod_readLineOf_64_s u1.1 0 u1.2
  refine sr_ite (fun c1_1 => ?_) (fun c1_1 => ?_)
  · refine sr_swIn (j := 1) (tgt := 82) dX9_readLineOf_1 (by omega) (by omega) rfl rfl ?_
    refine sr_aload_n (i := 0) (pc' := 83) dX9_readLineOf_82 rfl rfl rfl ?_
    refine sr_callV0_IM (pc' := 86) (mod_lookedYard_sp μ) dX9_readLineOf_83 rfl mg_X9_lookedYard mi_X9_lookedYard (Or.inl ⟨9, _, TX9, 40, s88_61, rfl⟩) ⟨Nat.le_of_ble_eq_true rfl, Nat.le_of_ble_eq_true rfl⟩ w_407 (Nat.le_of_ble_eq_true rfl) (fun u3 hu3 hcu3 hzu3 => ?_)
    refine sr_istore_n (i := 2) (lv' := [some (vR 61), some (vI x1), some (vI u3.1)]) (pc' := 87) dX9_readLineOf_86 rfl rfl (by decide) rfl ?_
    refine sr_aload_n (i := 0) (pc' := 88) dX9_readLineOf_87 rfl rfl rfl ?_
    refine sr_aload_n (i := 0) (pc' := 89) dX9_readLineOf_88 rfl rfl rfl ?_
    refine sr_getR (k := 10) (b := 70) (pc' := 92) cls_X9 dX9_readLineOf_89 rfl s88_61 rfl (by decide) w_334 ?_
    refine sr_iload_n (i := 2) (pc' := 93) dX9_readLineOf_92 rfl rfl rfl ?_
    refine sr_iald (pc' := 94) dX9_readLineOf_93 rfl s88_70 (by decide) (fun v4 hv4 hv4a hv4b => ?_)
    refine sr_bipush (pc' := 96) dX9_readLineOf_94 rfl (by decide) (by decide) ?_
    refine sr_icmp_ne (pc' := 99) (tgt := 103) dX9_readLineOf_96 rfl rfl (fun c96 => ?_) (fun c96 => ?_)
    · refine sr_iconst (pc' := 100) dX9_readLineOf_99 rfl (by decide) ?_
      refine sr_goto (pc' := 104) dX9_readLineOf_100 rfl ?_
      refine sr_fgt (fgt_s (fgt_n (fgt_s fgt_nil))) ?_
      exact mod_readLineOf_104_s u3.1 1 u3.2
    · refine sr_iconst (pc' := 104) dX9_readLineOf_103 rfl (by decide) ?_
      refine sr_fgt (fgt_s (fgt_n (fgt_s fgt_nil))) ?_
      exact mod_readLineOf_104_s u3.1 0 u3.2
  refine sr_ite (fun c1_2 => ?_) (fun c1_2 => ?_)
  · refine sr_swIn (j := 2) (tgt := 127) dX9_readLineOf_1 (by omega) (by omega) rfl rfl ?_
    refine sr_aload_n (i := 0) (pc' := 128) dX9_readLineOf_127 rfl rfl rfl ?_
    refine sr_callV0_IM (pc' := 131) (mod_lookedYard_sp μ) dX9_readLineOf_128 rfl mg_X9_lookedYard mi_X9_lookedYard (Or.inl ⟨9, _, TX9, 40, s88_61, rfl⟩) ⟨Nat.le_of_ble_eq_true rfl, Nat.le_of_ble_eq_true rfl⟩ w_407 (Nat.le_of_ble_eq_true rfl) (fun u5 hu5 hcu5 hzu5 => ?_)
    refine sr_istore_n (i := 2) (lv' := [some (vR 61), some (vI x1), some (vI u5.1)]) (pc' := 132) dX9_readLineOf_131 rfl rfl (by decide) rfl ?_
    refine sr_aload_n (i := 0) (pc' := 133) dX9_readLineOf_132 rfl rfl rfl ?_
    refine sr_aload_n (i := 0) (pc' := 134) dX9_readLineOf_133 rfl rfl rfl ?_
    refine sr_getR (k := 11) (b := 71) (pc' := 137) cls_X9 dX9_readLineOf_134 rfl s88_61 rfl (by decide) w_376 ?_
    refine sr_iload_n (i := 2) (pc' := 138) dX9_readLineOf_137 rfl rfl rfl ?_
    refine sr_iald (pc' := 139) dX9_readLineOf_138 rfl s88_71 (by decide) (fun v6 hv6 hv6a hv6b => ?_)
    refine sr_bipush (pc' := 141) dX9_readLineOf_139 rfl (by decide) (by decide) ?_
    refine sr_icmp_ne (pc' := 144) (tgt := 148) dX9_readLineOf_141 rfl rfl (fun c141 => ?_) (fun c141 => ?_)
    · refine sr_iconst (pc' := 145) dX9_readLineOf_144 rfl (by decide) ?_
      refine sr_goto (pc' := 149) dX9_readLineOf_145 rfl ?_
      refine sr_fgt (fgt_s (fgt_n (fgt_s fgt_nil))) ?_
      exact mod_readLineOf_149_s u5.1 1 u5.2
    · refine sr_iconst (pc' := 149) dX9_readLineOf_148 rfl (by decide) ?_
      refine sr_fgt (fgt_s (fgt_n (fgt_s fgt_nil))) ?_
      exact mod_readLineOf_149_s u5.1 0 u5.2
  refine sr_ite (fun c1_3 => ?_) (fun c1_3 => ?_)
  · refine sr_swIn (j := 3) (tgt := 173) dX9_readLineOf_1 (by omega) (by omega) rfl rfl ?_
    refine sr_aload_n (i := 0) (pc' := 174) dX9_readLineOf_173 rfl rfl rfl ?_
    refine sr_iload_n (i := 1) (pc' := 175) dX9_readLineOf_174 rfl rfl rfl ?_
    refine sr_callV1_M (pc' := 178) (mod_readPlace_sp x1 μ) dX9_readLineOf_175 rfl mg_X9_readPlace mi_X9_readPlace (Or.inl ⟨9, _, TX9, 40, s88_61, rfl⟩) ⟨Nat.le_of_ble_eq_true rfl, Nat.le_of_ble_eq_true rfl⟩ w_411 (Nat.le_of_ble_eq_true rfl) (fun μ7 hμ7 => ?_)
    refine sr_goto (pc' := 193) dX9_readLineOf_178 rfl ?_
    exact sr_ret dX9_readLineOf_193 rfl rfl
  refine sr_ite (fun c1_4 => ?_) (fun c1_4 => ?_)
  · refine sr_swIn (j := 4) (tgt := 173) dX9_readLineOf_1 (by omega) (by omega) rfl rfl ?_
    refine sr_aload_n (i := 0) (pc' := 174) dX9_readLineOf_173 rfl rfl rfl ?_
    refine sr_iload_n (i := 1) (pc' := 175) dX9_readLineOf_174 rfl rfl rfl ?_
    refine sr_callV1_M (pc' := 178) (mod_readPlace_sp x1 μ) dX9_readLineOf_175 rfl mg_X9_readPlace mi_X9_readPlace (Or.inl ⟨9, _, TX9, 40, s88_61, rfl⟩) ⟨Nat.le_of_ble_eq_true rfl, Nat.le_of_ble_eq_true rfl⟩ w_411 (Nat.le_of_ble_eq_true rfl) (fun μ8 hμ8 => ?_)
    refine sr_goto (pc' := 193) dX9_readLineOf_178 rfl ?_
    exact sr_ret dX9_readLineOf_193 rfl rfl
  refine sr_ite (fun c1_5 => ?_) (fun c1_5 => ?_)
  · refine sr_swIn (j := 6) (tgt := 181) dX9_readLineOf_1 (by omega) (by omega) rfl rfl ?_
    refine sr_aload_n (i := 0) (pc' := 182) dX9_readLineOf_181 rfl rfl rfl ?_
    refine sr_callV0_M (pc' := 185) (mod_readCart_sp μ) dX9_readLineOf_182 rfl mg_X9_readCart mi_X9_readCart (Or.inl ⟨9, _, TX9, 40, s88_61, rfl⟩) ⟨Nat.le_of_ble_eq_true rfl, Nat.le_of_ble_eq_true rfl⟩ w_412 (Nat.le_of_ble_eq_true rfl) (fun μ9 hμ9 => ?_)
    refine sr_goto (pc' := 193) dX9_readLineOf_185 rfl ?_
    exact sr_ret dX9_readLineOf_193 rfl rfl
  refine sr_swOut (tgt := 188) [0, 1, 2, 3, 4, 6] dX9_readLineOf_1 (by simp only [List.forall_mem_cons, List.not_mem_nil, false_implies, implies_true, and_true]; omega) (by decide) rfl ?_
  refine sr_aload_n (i := 0) (pc' := 189) dX9_readLineOf_188 rfl rfl rfl ?_
  refine sr_iload_n (i := 1) (pc' := 190) dX9_readLineOf_189 rfl rfl rfl ?_
  refine sr_callV1_M (pc' := 193) (mod_readOther_sp x1 μ) dX9_readLineOf_190 rfl mg_X9_readOther mi_X9_readOther (Or.inl ⟨9, _, TX9, 40, s88_61, rfl⟩) ⟨Nat.le_of_ble_eq_true rfl, Nat.le_of_ble_eq_true rfl⟩ w_413 (Nat.le_of_ble_eq_true rfl) (fun μ10 hμ10 => ?_)
  exact sr_ret dX9_readLineOf_193 rfl rfl
def mod_readLine_119  (k123 : Mem → Option (Mem)) (s1 : Int) (μ : Mem) : Option (Mem) := (mod_needs s1 2 μ).bind fun μ1 => k123 μ1
theorem mod_readLine_119_s {l : Launch} {G : Nv}   {k123 : Mem → Option (Mem)} (hk123 : ∀ (μ : Mem) , SR l G S88 mX9_readLine (k123 μ) jM 123 [some (vR 61), none] [] μ) : ∀ (s1 : Int) (μ : Mem), SR l G S88 mX9_readLine (mod_readLine_119 k123 s1 μ) jM 119 [some (vR 61), none] [vI s1, vR 61] μ := by
  intro s1 μ
  unfold mod_readLine_119
  refine sr_iconst (pc' := 120) dX9_readLine_119 rfl (by decide) ?_
  refine sr_callV2_M (pc' := 123) (mod_needs_sp s1 2 μ) dX9_readLine_120 rfl mg_X9_needs mi_X9_needs (Or.inl ⟨9, _, TX9, 40, s88_61, rfl⟩) ⟨Nat.le_of_ble_eq_true rfl, Nat.le_of_ble_eq_true rfl⟩ w_390 (Nat.le_of_ble_eq_true rfl) (fun μ1 hμ1 => ?_)
  exact hk123 μ1
def mod_readLine_123   (μ : Mem) : Option (Mem) := (mod_next μ).bind fun μ1 => some μ1
theorem mod_readLine_123_s {l : Launch} {G : Nv}     : ∀ (μ : Mem), SR l G S88 mX9_readLine (mod_readLine_123 μ) jM 123 [some (vR 61), none] [] μ := by
  intro μ
  unfold mod_readLine_123
  refine sr_aload_n (i := 0) (pc' := 124) dX9_readLine_123 rfl rfl rfl ?_
  refine sr_callV0_M (pc' := 127) (mod_next_sp μ) dX9_readLine_124 rfl mg_X9_next mi_X9_next (Or.inl ⟨9, _, TX9, 40, s88_61, rfl⟩) ⟨Nat.le_of_ble_eq_true rfl, Nat.le_of_ble_eq_true rfl⟩ w_406 (Nat.le_of_ble_eq_true rfl) (fun μ1 hμ1 => ?_)
  exact sr_ret dX9_readLine_127 rfl rfl
def mod_readLine_77   (x1 s1 : Int) (μ : Mem) : Option (Mem) := (mod_needs s1 4 μ).bind fun μ1 => (mod_next μ1).bind fun μ2 => if (μ2 61 23) ≤ 0 then ((mod_readLineOf x1 μ2).bind fun μ3 => if (μ3 61 23) = 0 then (if (μ3 61 21) = 3 then (mod_readLine_119 mod_readLine_123 1 μ3) else (mod_readLine_119 mod_readLine_123 0 μ3)) else (mod_readLine_123 μ3)) else (some μ2)
theorem mod_readLine_77_s {l : Launch} {G : Nv}     : ∀ (x1 s1 : Int) (μ : Mem), SR l G S88 mX9_readLine (mod_readLine_77 x1 s1 μ) jM 77 [some (vR 61), some (vI x1)] [vI s1, vR 61] μ := by
  intro x1 s1 μ
  unfold mod_readLine_77
  refine sr_iconst (pc' := 78) dX9_readLine_77 rfl (by decide) ?_
  refine sr_callV2_M (pc' := 81) (mod_needs_sp s1 4 μ) dX9_readLine_78 rfl mg_X9_needs mi_X9_needs (Or.inl ⟨9, _, TX9, 40, s88_61, rfl⟩) ⟨Nat.le_of_ble_eq_true rfl, Nat.le_of_ble_eq_true rfl⟩ w_390 (Nat.le_of_ble_eq_true rfl) (fun μ1 hμ1 => ?_)
  refine sr_aload_n (i := 0) (pc' := 82) dX9_readLine_81 rfl rfl rfl ?_
  refine sr_callV0_M (pc' := 85) (mod_next_sp μ1) dX9_readLine_82 rfl mg_X9_next mi_X9_next (Or.inl ⟨9, _, TX9, 40, s88_61, rfl⟩) ⟨Nat.le_of_ble_eq_true rfl, Nat.le_of_ble_eq_true rfl⟩ w_406 (Nat.le_of_ble_eq_true rfl) (fun μ2 hμ2 => ?_)
  refine sr_aload_n (i := 0) (pc' := 86) dX9_readLine_85 rfl rfl rfl ?_
  refine sr_getI (k := 23) (pc' := 89) cls_X9 dX9_readLine_86 rfl s88_61 rfl (by decide) w_360 ?_
  refine sr_if_le (pc' := 92) (tgt := 93) dX9_readLine_89 rfl rfl (fun c89 => ?_) (fun c89 => ?_)
  · refine sr_aload_n (i := 0) (pc' := 94) dX9_readLine_93 rfl rfl rfl ?_
    refine sr_iload_n (i := 1) (pc' := 95) dX9_readLine_94 rfl rfl rfl ?_
    refine sr_callV1_M (pc' := 98) (mod_readLineOf_sp x1 μ2) dX9_readLine_95 rfl mg_X9_readLineOf mi_X9_readLineOf (Or.inl ⟨9, _, TX9, 40, s88_61, rfl⟩) ⟨Nat.le_of_ble_eq_true rfl, Nat.le_of_ble_eq_true rfl⟩ w_414 (Nat.le_of_ble_eq_true rfl) (fun μ3 hμ3 => ?_)
    refine sr_aload_n (i := 0) (pc' := 99) dX9_readLine_98 rfl rfl rfl ?_
    refine sr_getI (k := 23) (pc' := 102) cls_X9 dX9_readLine_99 rfl s88_61 rfl (by decide) w_360 ?_
    refine sr_if_ne (pc' := 105) (tgt := 123) dX9_readLine_102 rfl rfl (fun c102 => ?_) (fun c102 => ?_)
    · refine sr_aload_n (i := 0) (pc' := 106) dX9_readLine_105 rfl rfl rfl ?_
      refine sr_aload_n (i := 0) (pc' := 107) dX9_readLine_106 rfl rfl rfl ?_
      refine sr_getI (k := 21) (pc' := 110) cls_X9 dX9_readLine_107 rfl s88_61 rfl (by decide) w_392 ?_
      refine sr_iconst (pc' := 111) dX9_readLine_110 rfl (by decide) ?_
      refine sr_icmp_ne (pc' := 114) (tgt := 118) dX9_readLine_111 rfl rfl (fun c111 => ?_) (fun c111 => ?_)
      · refine sr_iconst (pc' := 115) dX9_readLine_114 rfl (by decide) ?_
        refine sr_goto (pc' := 119) dX9_readLine_115 rfl ?_
        refine sr_fgt (fgt_s (fgt_n fgt_nil)) ?_
        exact mod_readLine_119_s mod_readLine_123_s 1 μ3
      · refine sr_iconst (pc' := 119) dX9_readLine_118 rfl (by decide) ?_
        refine sr_fgt (fgt_s (fgt_n fgt_nil)) ?_
        exact mod_readLine_119_s mod_readLine_123_s 0 μ3
    · refine sr_fgt (fgt_s (fgt_n fgt_nil)) ?_
      exact mod_readLine_123_s μ3
  · exact sr_ret dX9_readLine_92 rfl rfl
def mod_readLine_56   (x1 s1 : Int) (μ : Mem) : Option (Mem) := (mod_needs s1 5 μ).bind fun μ1 => if x1 = 0 then (if (μ1 61 14) = 0 then (mod_readLine_77 x1 1 μ1) else (mod_readLine_77 x1 0 μ1)) else (mod_readLine_77 x1 1 μ1)
theorem mod_readLine_56_s {l : Launch} {G : Nv}     : ∀ (x1 s1 : Int) (μ : Mem), SR l G S88 mX9_readLine (mod_readLine_56 x1 s1 μ) jM 56 [some (vR 61), some (vI x1)] [vI s1, vR 61] μ := by
  intro x1 s1 μ
  unfold mod_readLine_56
  refine sr_iconst (pc' := 57) dX9_readLine_56 rfl (by decide) ?_
  refine sr_callV2_M (pc' := 60) (mod_needs_sp s1 5 μ) dX9_readLine_57 rfl mg_X9_needs mi_X9_needs (Or.inl ⟨9, _, TX9, 40, s88_61, rfl⟩) ⟨Nat.le_of_ble_eq_true rfl, Nat.le_of_ble_eq_true rfl⟩ w_390 (Nat.le_of_ble_eq_true rfl) (fun μ1 hμ1 => ?_)
  refine sr_aload_n (i := 0) (pc' := 61) dX9_readLine_60 rfl rfl rfl ?_
  refine sr_iload_n (i := 1) (pc' := 62) dX9_readLine_61 rfl rfl rfl ?_
  refine sr_if_ne (pc' := 65) (tgt := 72) dX9_readLine_62 rfl rfl (fun c62 => ?_) (fun c62 => ?_)
  · refine sr_aload_n (i := 0) (pc' := 66) dX9_readLine_65 rfl rfl rfl ?_
    refine sr_getZ (k := 14) (pc' := 69) cls_X9 dX9_readLine_66 rfl s88_61 rfl (by decide) w_372 ?_
    refine sr_if_ne (pc' := 72) (tgt := 76) dX9_readLine_69 rfl rfl (fun c69 => ?_) (fun c69 => ?_)
    · refine sr_iconst (pc' := 73) dX9_readLine_72 rfl (by decide) ?_
      refine sr_goto (pc' := 77) dX9_readLine_73 rfl ?_
      exact mod_readLine_77_s x1 1 μ1
    · refine sr_iconst (pc' := 77) dX9_readLine_76 rfl (by decide) ?_
      exact mod_readLine_77_s x1 0 μ1
  · refine sr_iconst (pc' := 73) dX9_readLine_72 rfl (by decide) ?_
    refine sr_goto (pc' := 77) dX9_readLine_73 rfl ?_
    exact mod_readLine_77_s x1 1 μ1
def mod_readLine_30   (x1 s1 : Int) (μ : Mem) : Option (Mem) := (mod_needs s1 2 μ).bind fun μ1 => if x1 = 7 then (if 5 ≤ (μ1 68 0) then (mod_readLine_56 x1 0 μ1) else (mod_readLine_56 x1 1 μ1)) else (mod_readLine_56 x1 1 μ1)
theorem mod_readLine_30_s {l : Launch} {G : Nv}     : ∀ (x1 s1 : Int) (μ : Mem), SR l G S88 mX9_readLine (mod_readLine_30 x1 s1 μ) jM 30 [some (vR 61), some (vI x1)] [vI s1, vR 61] μ := by
  intro x1 s1 μ
  unfold mod_readLine_30
  refine sr_iconst (pc' := 31) dX9_readLine_30 rfl (by decide) ?_
  refine sr_callV2_M (pc' := 34) (mod_needs_sp s1 2 μ) dX9_readLine_31 rfl mg_X9_needs mi_X9_needs (Or.inl ⟨9, _, TX9, 40, s88_61, rfl⟩) ⟨Nat.le_of_ble_eq_true rfl, Nat.le_of_ble_eq_true rfl⟩ w_390 (Nat.le_of_ble_eq_true rfl) (fun μ1 hμ1 => ?_)
  refine sr_aload_n (i := 0) (pc' := 35) dX9_readLine_34 rfl rfl rfl ?_
  refine sr_iload_n (i := 1) (pc' := 36) dX9_readLine_35 rfl rfl rfl ?_
  refine sr_bipush (pc' := 38) dX9_readLine_36 rfl (by decide) (by decide) ?_
  refine sr_icmp_ne (pc' := 41) (tgt := 51) dX9_readLine_38 rfl rfl (fun c38 => ?_) (fun c38 => ?_)
  · refine sr_aload_n (i := 0) (pc' := 42) dX9_readLine_41 rfl rfl rfl ?_
    refine sr_getR (k := 7) (b := 68) (pc' := 45) cls_X9 dX9_readLine_42 rfl s88_61 rfl (by decide) w_377 ?_
    refine sr_iconst (pc' := 46) dX9_readLine_45 rfl (by decide) ?_
    refine sr_ialdc (j := 0) (pc' := 47) dX9_readLine_46 rfl s88_68 (by decide) (by decide) (by decide) rfl ?_
    refine sr_iconst (pc' := 48) dX9_readLine_47 rfl (by decide) ?_
    refine sr_icmp_ge (pc' := 51) (tgt := 55) dX9_readLine_48 rfl rfl (fun c48 => ?_) (fun c48 => ?_)
    · refine sr_iconst (pc' := 56) dX9_readLine_55 rfl (by decide) ?_
      exact mod_readLine_56_s x1 0 μ1
    · refine sr_iconst (pc' := 52) dX9_readLine_51 rfl (by decide) ?_
      refine sr_goto (pc' := 56) dX9_readLine_52 rfl ?_
      exact mod_readLine_56_s x1 1 μ1
  · refine sr_iconst (pc' := 52) dX9_readLine_51 rfl (by decide) ?_
    refine sr_goto (pc' := 56) dX9_readLine_52 rfl ?_
    exact mod_readLine_56_s x1 1 μ1
def mod_readLine_17   (s0 : Int) (μ : Mem) : Option (Mem) := if s0 = (-4) then (mod_readLine_30 s0 0 μ) else (mod_readLine_30 s0 1 μ)
theorem mod_readLine_17_s {l : Launch} {G : Nv}     : ∀ (s0 : Int) (μ : Mem), SR l G S88 mX9_readLine (mod_readLine_17 s0 μ) jM 17 [some (vR 61), none] [vI s0] μ := by
  intro s0 μ
  unfold mod_readLine_17
  refine sr_istore_n (i := 1) (lv' := [some (vR 61), some (vI s0)]) (pc' := 18) dX9_readLine_17 rfl rfl (by decide) rfl ?_
  refine sr_aload_n (i := 0) (pc' := 19) dX9_readLine_18 rfl rfl rfl ?_
  refine sr_iload_n (i := 1) (pc' := 20) dX9_readLine_19 rfl rfl rfl ?_
  refine sr_bipush (pc' := 22) dX9_readLine_20 rfl (by decide) (by decide) ?_
  refine sr_icmp_eq (pc' := 25) (tgt := 29) dX9_readLine_22 rfl rfl (fun c22 => ?_) (fun c22 => ?_)
  · refine sr_iconst (pc' := 30) dX9_readLine_29 rfl (by decide) ?_
    exact mod_readLine_30_s s0 0 μ
  · refine sr_iconst (pc' := 26) dX9_readLine_25 rfl (by decide) ?_
    refine sr_goto (pc' := 30) dX9_readLine_26 rfl ?_
    exact mod_readLine_30_s s0 1 μ
def mod_readLine   (μ : Mem) : Option (Mem) := if (μ 61 21) = 1 then ((mod_lineNow μ).bind fun u1 => mod_readLine_17 u1 μ) else (mod_readLine_17 (-4) μ)
theorem mod_readLine_sp {l : Launch} {G : Nv}   (μ : Mem) : SP l G S88 mX9_readLine [vR 61] μ (mod_readLine μ) jM := by
  refine sp_go (lv := [some (vR 61), none]) pn_X9 (Nat.le_of_ble_eq_true rfl) rfl ?_
  unfold mod_readLine
  refine sr_aload_n (i := 0) (pc' := 1) dX9_readLine_0 rfl rfl rfl ?_
  refine sr_getI (k := 21) (pc' := 4) cls_X9 dX9_readLine_1 rfl s88_61 rfl (by decide) w_392 ?_
  refine sr_iconst (pc' := 5) dX9_readLine_4 rfl (by decide) ?_
  refine sr_icmp_ne (pc' := 8) (tgt := 15) dX9_readLine_5 rfl rfl (fun c5 => ?_) (fun c5 => ?_)
  · refine sr_aload_n (i := 0) (pc' := 9) dX9_readLine_8 rfl rfl rfl ?_
    refine sr_callV0_I (pc' := 12) (mod_lineNow_sp μ) dX9_readLine_9 rfl mg_X9_lineNow mi_X9_lineNow (Or.inl ⟨9, _, TX9, 40, s88_61, rfl⟩) ⟨Nat.le_of_ble_eq_true rfl, Nat.le_of_ble_eq_true rfl⟩ w_415 (Nat.le_of_ble_eq_true rfl) (fun u1 hu1 hcu1 hzu1 => ?_)
    refine sr_goto (pc' := 17) dX9_readLine_12 rfl ?_
    exact mod_readLine_17_s u1 μ
  · refine sr_bipush (pc' := 17) dX9_readLine_15 rfl (by decide) (by decide) ?_
    exact mod_readLine_17_s (-4) μ
def mod_shares_97 (μ : Mem) (k101 : Int → Int → Int → Int → Int → Option (Int)) (x1 x2 x4 x5 s0 : Int) : Option (Int) := k101 x1 (wI (x2 + 1)) s0 x4 x5
theorem mod_shares_97_s {l : Launch} {G : Nv}   (μ : Mem) {k101 : Int → Int → Int → Int → Int → Option (Int)} (hk101 : ∀ (x1 x2 x3 x4 x5 : Int) , SR l G S88 mX9_shares (k101 x1 x2 x3 x4 x5) (jI μ) 101 [some (vR 61), some (vI x1), some (vI x2), some (vI x3), some (vI x4), some (vI x5), none] [] μ) : ∀ (x1 x2 x4 x5 s0 : Int), SR l G S88 mX9_shares (mod_shares_97 μ k101 x1 x2 x4 x5 s0) (jI μ) 97 [some (vR 61), some (vI x1), some (vI x2), none, some (vI x4), some (vI x5), none] [vI s0] μ := by
  intro x1 x2 x4 x5 s0
  unfold mod_shares_97
  refine sr_istore_n (i := 3) (lv' := [some (vR 61), some (vI x1), some (vI x2), some (vI s0), some (vI x4), some (vI x5), none]) (pc' := 98) dX9_shares_97 rfl rfl (by decide) rfl ?_
  refine sr_iinc (lv' := [some (vR 61), some (vI x1), some (vI (wI (x2 + 1))), some (vI s0), some (vI x4), some (vI x5), none]) (pc' := 101) dX9_shares_98 rfl (by decide) rfl rfl ?_
  exact hk101 x1 (wI (x2 + 1)) s0 x4 x5
def mod_shares_101 (μ : Mem) (k30 : Int → Int → Int → Int → Int → Option (Int)) (x1 x2 x3 x4 x5 : Int) : Option (Int) := k30 x1 x2 x3 x4 (wI (x5 + 1))
theorem mod_shares_101_s {l : Launch} {G : Nv}   (μ : Mem) {k30 : Int → Int → Int → Int → Int → Option (Int)} (hk30 : ∀ (x1 x2 x3 x4 x5 : Int) , SR l G S88 mX9_shares (k30 x1 x2 x3 x4 x5) (jI μ) 30 [some (vR 61), some (vI x1), some (vI x2), some (vI x3), some (vI x4), some (vI x5), none] [] μ) : ∀ (x1 x2 x3 x4 x5 : Int), SR l G S88 mX9_shares (mod_shares_101 μ k30 x1 x2 x3 x4 x5) (jI μ) 101 [some (vR 61), some (vI x1), some (vI x2), some (vI x3), some (vI x4), some (vI x5), none] [] μ := by
  intro x1 x2 x3 x4 x5
  unfold mod_shares_101
  refine sr_iinc (lv' := [some (vR 61), some (vI x1), some (vI x2), some (vI x3), some (vI x4), some (vI (wI (x5 + 1))), none]) (pc' := 104) dX9_shares_101 rfl (by decide) rfl rfl ?_
  refine sr_goto (pc' := 30) dX9_shares_104 rfl ?_
  exact hk30 x1 x2 x3 x4 (wI (x5 + 1))
def mod_shares_30 (μ : Mem) (k20 : Int → Int → Int → Int → Option (Int)) : Nat → Int → Int → Int → Int → Int → Option (Int)
  | 0, _, _, _, _, _ => none
  | n + 1, x1, x2, x3, x4, x5 => if 60 < x5 then (k20 x1 x2 x3 (wI (x4 + 1))) else (bnd (wI ((wI ((μ 62 167) - x4)) - x5)) fun v1 => (mod_isShare μ v1).bind fun u2 => if u2 = 0 then (mod_shares_101 μ (mod_shares_30 μ k20 n) x1 x2 x3 x4 x5) else ((mod_areFirm μ x4 x5 v1).bind fun u3 => if u3 = 0 then (mod_shares_101 μ (mod_shares_30 μ k20 n) x1 x2 x3 x4 x5) else (if x2 = 0 then (mod_shares_97 μ (mod_shares_101 μ (mod_shares_30 μ k20 n)) x1 x2 x4 x5 (wI ((wI ((wI (10000 * x4)) + (wI (100 * x5)))) + v1))) else (mod_shares_97 μ (mod_shares_101 μ (mod_shares_30 μ k20 n)) x1 x2 x4 x5 x3))))
theorem mod_shares_30_s {l : Launch} {G : Nv}   (μ : Mem) {k20 : Int → Int → Int → Int → Option (Int)} (hk20 : ∀ (x1 x2 x3 x4 : Int) , SR l G S88 mX9_shares (k20 x1 x2 x3 x4) (jI μ) 20 [some (vR 61), some (vI x1), some (vI x2), some (vI x3), some (vI x4), none, none] [] μ) : ∀ (n : Nat) (x1 x2 x3 x4 x5 : Int), SR l G S88 mX9_shares (mod_shares_30 μ k20 n x1 x2 x3 x4 x5) (jI μ) 30 [some (vR 61), some (vI x1), some (vI x2), some (vI x3), some (vI x4), some (vI x5), none] [] μ := by
  intro n
  induction n with
  | zero => intro x1 x2 x3 x4 x5; exact sr_none
  | succ n ih =>
    intro x1 x2 x3 x4 x5
    rw [mod_shares_30.eq_2]
    refine sr_iload (pc' := 32) dX9_shares_30 rfl rfl ?_
    refine sr_bipush (pc' := 34) dX9_shares_32 rfl (by decide) (by decide) ?_
    refine sr_icmp_gt (pc' := 37) (tgt := 107) dX9_shares_34 rfl rfl (fun c34 => ?_) (fun c34 => ?_)
    · refine sr_iinc (lv' := [some (vR 61), some (vI x1), some (vI x2), some (vI x3), some (vI (wI (x4 + 1))), some (vI x5), none]) (pc' := 110) dX9_shares_107 rfl (by decide) rfl rfl ?_
      refine sr_goto (pc' := 20) dX9_shares_110 rfl ?_
      refine sr_fgt (fgt_s (fgt_s (fgt_s (fgt_s (fgt_s (fgt_n (fgt_s fgt_nil))))))) ?_
      exact hk20 x1 x2 x3 (wI (x4 + 1))
    · refine sr_aload_n (i := 0) (pc' := 38) dX9_shares_37 rfl rfl rfl ?_
      refine sr_getR (k := 0) (b := 62) (pc' := 41) cls_X9 dX9_shares_38 rfl s88_61 rfl (by decide) w_311 ?_
      refine sr_sipush (pc' := 44) dX9_shares_41 rfl (by decide) (by decide) ?_
      refine sr_ialdc (j := 167) (pc' := 45) dX9_shares_44 rfl s88_62 (by decide) (by decide) (by decide) rfl ?_
      refine sr_iload (pc' := 47) dX9_shares_45 rfl rfl ?_
      refine sr_isub (pc' := 48) dX9_shares_47 rfl ?_
      refine sr_iload (pc' := 50) dX9_shares_48 rfl rfl ?_
      refine sr_isub (pc' := 51) dX9_shares_50 rfl ?_
      refine sr_bnd (fun v1 hv1 => ?_)
      refine sr_istore (lv' := [some (vR 61), some (vI x1), some (vI x2), some (vI x3), some (vI x4), some (vI x5), some (vI v1)]) (pc' := 53) dX9_shares_51 rfl (by decide) rfl ?_
      refine sr_iload (pc' := 55) dX9_shares_53 rfl rfl ?_
      refine sr_callS1_I (pc' := 58) (mod_isShare_sp v1 μ) dX9_shares_55 rfl mg_X9_isShare ms_X9_isShare ⟨Nat.le_of_ble_eq_true rfl, Nat.le_of_ble_eq_true rfl⟩ w_368 (Nat.le_of_ble_eq_true rfl) (fun u2 hu2 hcu2 hzu2 => ?_)
      refine sr_if_eq (pc' := 61) (tgt := 101) dX9_shares_58 rfl rfl (fun c58 => ?_) (fun c58 => ?_)
      · refine sr_fgt (fgt_s (fgt_s (fgt_s (fgt_s (fgt_s (fgt_s (fgt_n fgt_nil))))))) ?_
        exact mod_shares_101_s μ ih x1 x2 x3 x4 x5
      · refine sr_aload_n (i := 0) (pc' := 62) dX9_shares_61 rfl rfl rfl ?_
        refine sr_iload (pc' := 64) dX9_shares_62 rfl rfl ?_
        refine sr_iload (pc' := 66) dX9_shares_64 rfl rfl ?_
        refine sr_iload (pc' := 68) dX9_shares_66 rfl rfl ?_
        refine sr_callV3_I (pc' := 71) (mod_areFirm_sp x4 x5 v1 μ) dX9_shares_68 rfl mg_X9_areFirm mi_X9_areFirm (Or.inl ⟨9, _, TX9, 40, s88_61, rfl⟩) ⟨Nat.le_of_ble_eq_true rfl, Nat.le_of_ble_eq_true rfl⟩ w_369 (Nat.le_of_ble_eq_true rfl) (fun u3 hu3 hcu3 hzu3 => ?_)
        refine sr_if_eq (pc' := 74) (tgt := 101) dX9_shares_71 rfl rfl (fun c71 => ?_) (fun c71 => ?_)
        · refine sr_fgt (fgt_s (fgt_s (fgt_s (fgt_s (fgt_s (fgt_s (fgt_n fgt_nil))))))) ?_
          exact mod_shares_101_s μ ih x1 x2 x3 x4 x5
        · refine sr_iload_n (i := 2) (pc' := 75) dX9_shares_74 rfl rfl rfl ?_
          refine sr_if_ne (pc' := 78) (tgt := 96) dX9_shares_75 rfl rfl (fun c75 => ?_) (fun c75 => ?_)
          · refine sr_sipush (pc' := 81) dX9_shares_78 rfl (by decide) (by decide) ?_
            refine sr_iload (pc' := 83) dX9_shares_81 rfl rfl ?_
            refine sr_imul (pc' := 84) dX9_shares_83 rfl ?_
            refine sr_bipush (pc' := 86) dX9_shares_84 rfl (by decide) (by decide) ?_
            refine sr_iload (pc' := 88) dX9_shares_86 rfl rfl ?_
            refine sr_imul (pc' := 89) dX9_shares_88 rfl ?_
            refine sr_iadd (pc' := 90) dX9_shares_89 rfl ?_
            refine sr_iload (pc' := 92) dX9_shares_90 rfl rfl ?_
            refine sr_iadd (pc' := 93) dX9_shares_92 rfl ?_
            refine sr_goto (pc' := 97) dX9_shares_93 rfl ?_
            refine sr_fgt (fgt_s (fgt_s (fgt_s (fgt_n (fgt_s (fgt_s (fgt_n fgt_nil))))))) ?_
            exact mod_shares_97_s μ (mod_shares_101_s μ ih) x1 x2 x4 x5 (wI ((wI ((wI (10000 * x4)) + (wI (100 * x5)))) + v1))
          · refine sr_iload_n (i := 3) (pc' := 97) dX9_shares_96 rfl rfl rfl ?_
            refine sr_fgt (fgt_s (fgt_s (fgt_s (fgt_n (fgt_s (fgt_s (fgt_n fgt_nil))))))) ?_
            exact mod_shares_97_s μ (mod_shares_101_s μ ih) x1 x2 x4 x5 x3
def mod_shares_20 (μ : Mem)  : Nat → Int → Int → Int → Int → Option (Int)
  | 0, _, _, _, _ => none
  | n + 1, x1, x2, x3, x4 => if 60 < x4 then (if x1 = 0 then (some x2) else (some x3)) else (mod_shares_30 μ (mod_shares_20 μ n) BIG x1 x2 x3 x4 0)
theorem mod_shares_20_s {l : Launch} {G : Nv}   (μ : Mem)   : ∀ (n : Nat) (x1 x2 x3 x4 : Int), SR l G S88 mX9_shares (mod_shares_20 μ n x1 x2 x3 x4) (jI μ) 20 [some (vR 61), some (vI x1), some (vI x2), some (vI x3), some (vI x4), none, none] [] μ := by
  intro n
  induction n with
  | zero => intro x1 x2 x3 x4; exact sr_none
  | succ n ih =>
    intro x1 x2 x3 x4
    rw [mod_shares_20.eq_2]
    refine sr_iload (pc' := 22) dX9_shares_20 rfl rfl ?_
    refine sr_bipush (pc' := 24) dX9_shares_22 rfl (by decide) (by decide) ?_
    refine sr_icmp_gt (pc' := 27) (tgt := 113) dX9_shares_24 rfl rfl (fun c24 => ?_) (fun c24 => ?_)
    · refine sr_iload_n (i := 1) (pc' := 114) dX9_shares_113 rfl rfl rfl ?_
      refine sr_if_ne (pc' := 117) (tgt := 121) dX9_shares_114 rfl rfl (fun c114 => ?_) (fun c114 => ?_)
      · refine sr_iload_n (i := 2) (pc' := 118) dX9_shares_117 rfl rfl rfl ?_
        refine sr_goto (pc' := 122) dX9_shares_118 rfl ?_
        exact sr_iretI dX9_shares_122 rfl rfl
      · refine sr_iload_n (i := 3) (pc' := 122) dX9_shares_121 rfl rfl rfl ?_
        exact sr_iretI dX9_shares_122 rfl rfl
    · refine sr_iconst (pc' := 28) dX9_shares_27 rfl (by decide) ?_
      refine sr_istore (lv' := [some (vR 61), some (vI x1), some (vI x2), some (vI x3), some (vI x4), some (vI 0), none]) (pc' := 30) dX9_shares_28 rfl (by decide) rfl ?_
      exact mod_shares_30_s μ ih BIG x1 x2 x3 x4 0
def mod_shares (μ : Mem)  (x1 : Int) : Option (Int) := (mod_in μ x1 0 1).bind fun u1 => if u1 = 0 then (some (-1)) else (mod_shares_20 μ BIG x1 0 (-4) 0)
theorem mod_shares_sp {l : Launch} {G : Nv}   (x1 : Int) (μ : Mem) : SP l G S88 mX9_shares [vR 61, vI x1] μ (mod_shares μ x1) (jI μ) := by
  refine sp_go (lv := [some (vR 61), some (vI x1), none, none, none, none, none]) pn_X9 (Nat.le_of_ble_eq_true rfl) rfl ?_
  unfold mod_shares
  refine sr_iload_n (i := 1) (pc' := 1) dX9_shares_0 rfl rfl rfl ?_
  refine sr_i2l (pc' := 2) dX9_shares_1 rfl ?_
  refine sr_lconst (x := 0) (pc' := 3) dX9_shares_2 rfl (by decide) rfl ?_
  refine sr_lconst (x := 1) (pc' := 4) dX9_shares_3 rfl (by decide) rfl ?_
  refine sr_callS3_I (pc' := 7) (mod_in_sp x1 0 1 μ) dX9_shares_4 rfl mg_X9_in ms_X9_in ⟨Nat.le_of_ble_eq_true rfl, Nat.le_of_ble_eq_true rfl⟩ w_336 (Nat.le_of_ble_eq_true rfl) (fun u1 hu1 hcu1 hzu1 => ?_)
  refine sr_if_ne (pc' := 10) (tgt := 12) dX9_shares_7 rfl rfl (fun c7 => ?_) (fun c7 => ?_)
  · refine sr_iconst (pc' := 11) dX9_shares_10 rfl (by decide) ?_
    exact sr_iretI dX9_shares_11 rfl rfl
  · refine sr_iconst (pc' := 13) dX9_shares_12 rfl (by decide) ?_
    refine sr_istore_n (i := 2) (lv' := [some (vR 61), some (vI x1), some (vI 0), none, none, none, none]) (pc' := 14) dX9_shares_13 rfl rfl (by decide) rfl ?_
    refine sr_bipush (pc' := 16) dX9_shares_14 rfl (by decide) (by decide) ?_
    refine sr_istore_n (i := 3) (lv' := [some (vR 61), some (vI x1), some (vI 0), some (vI (-4)), none, none, none]) (pc' := 17) dX9_shares_16 rfl rfl (by decide) rfl ?_
    refine sr_iconst (pc' := 18) dX9_shares_17 rfl (by decide) ?_
    refine sr_istore (lv' := [some (vR 61), some (vI x1), some (vI 0), some (vI (-4)), some (vI 0), none, none]) (pc' := 20) dX9_shares_18 rfl (by decide) rfl ?_
    exact mod_shares_20_s μ BIG x1 0 (-4) 0
def mod_sheet_40   : Nat → Int → Int → Mem → Option (Int × Mem)
  | 0, _, _, _ => none
  | n + 1, x1, x4, μ => if 40 ≤ x4 then (some (1, μ)) else ((stx μ 87 160 (wI ((wI (40 * x1)) + x4)) 0).bind fun μ1 => mod_sheet_40 n x1 (wI (x4 + 1)) μ1)
theorem mod_sheet_40_s {l : Launch} {G : Nv}     : ∀ (n : Nat) (x1 x4 : Int) (μ : Mem), SR l G S88 mX9_sheet (mod_sheet_40 n x1 x4 μ) jIM 40 [some (vR 61), some (vI x1), none, none, some (vI x4)] [] μ := by
  intro n
  induction n with
  | zero => intro x1 x4 μ; exact sr_none
  | succ n ih =>
    intro x1 x4 μ
    rw [mod_sheet_40.eq_2]
    refine sr_iload (pc' := 42) dX9_sheet_40 rfl rfl ?_
    refine sr_bipush (pc' := 44) dX9_sheet_42 rfl (by decide) (by decide) ?_
    refine sr_icmp_ge (pc' := 47) (tgt := 66) dX9_sheet_44 rfl rfl (fun c44 => ?_) (fun c44 => ?_)
    · refine sr_iconst (pc' := 67) dX9_sheet_66 rfl (by decide) ?_
      exact sr_iretI dX9_sheet_67 rfl rfl
    · refine sr_aload_n (i := 0) (pc' := 48) dX9_sheet_47 rfl rfl rfl ?_
      refine sr_getR (k := 38) (b := 87) (pc' := 51) cls_X9 dX9_sheet_48 rfl s88_61 rfl (by decide) w_386 ?_
      refine sr_bipush (pc' := 53) dX9_sheet_51 rfl (by decide) (by decide) ?_
      refine sr_iload_n (i := 1) (pc' := 54) dX9_sheet_53 rfl rfl rfl ?_
      refine sr_imul (pc' := 55) dX9_sheet_54 rfl ?_
      refine sr_iload (pc' := 57) dX9_sheet_55 rfl rfl ?_
      refine sr_iadd (pc' := 58) dX9_sheet_57 rfl ?_
      refine sr_iconst (pc' := 59) dX9_sheet_58 rfl (by decide) ?_
      refine sr_iast (pc' := 60) dX9_sheet_59 rfl s88_87 (by decide) (fun μ1 hμ1 hμ1a hμ1b => ?_)
      refine sr_iinc (lv' := [some (vR 61), some (vI x1), none, none, some (vI (wI (x4 + 1)))]) (pc' := 63) dX9_sheet_60 rfl (by decide) rfl rfl ?_
      refine sr_goto (pc' := 40) dX9_sheet_63 rfl ?_
      exact ih x1 (wI (x4 + 1)) μ1
def mod_sheet   (x1 x2 x3 : Int) (μ : Mem) : Option (Int × Mem) := (mod_isSheet μ x1 x2).bind fun u1 => if u1 = 0 then (some ((-1), μ)) else (if x3 ≤ 40 then (if 0 ≤ x3 then ((stx μ 85 4 x1 x2).bind fun μ2 => (stx μ2 86 4 x1 x3).bind fun μ3 => mod_sheet_40 BIG x1 0 μ3) else (some ((-14), μ))) else (some ((-1), μ)))
theorem mod_sheet_sp {l : Launch} {G : Nv}   (x1 x2 x3 : Int) (μ : Mem) : SP l G S88 mX9_sheet [vR 61, vI x1, vI x2, vI x3] μ (mod_sheet x1 x2 x3 μ) jIM := by
  refine sp_go (lv := [some (vR 61), some (vI x1), some (vI x2), some (vI x3), none]) pn_X9 (Nat.le_of_ble_eq_true rfl) rfl ?_
  unfold mod_sheet
  refine sr_iload_n (i := 1) (pc' := 1) dX9_sheet_0 rfl rfl rfl ?_
  refine sr_iload_n (i := 2) (pc' := 2) dX9_sheet_1 rfl rfl rfl ?_
  refine sr_callS2_I (pc' := 5) (mod_isSheet_sp x1 x2 μ) dX9_sheet_2 rfl mg_X9_isSheet ms_X9_isSheet ⟨Nat.le_of_ble_eq_true rfl, Nat.le_of_ble_eq_true rfl⟩ w_385 (Nat.le_of_ble_eq_true rfl) (fun u1 hu1 hcu1 hzu1 => ?_)
  refine sr_if_eq (pc' := 8) (tgt := 14) dX9_sheet_5 rfl rfl (fun c5 => ?_) (fun c5 => ?_)
  · refine sr_iconst (pc' := 15) dX9_sheet_14 rfl (by decide) ?_
    exact sr_iretI dX9_sheet_15 rfl rfl
  · refine sr_iload_n (i := 3) (pc' := 9) dX9_sheet_8 rfl rfl rfl ?_
    refine sr_bipush (pc' := 11) dX9_sheet_9 rfl (by decide) (by decide) ?_
    refine sr_icmp_le (pc' := 14) (tgt := 16) dX9_sheet_11 rfl rfl (fun c11 => ?_) (fun c11 => ?_)
    · refine sr_iload_n (i := 3) (pc' := 17) dX9_sheet_16 rfl rfl rfl ?_
      refine sr_if_ge (pc' := 20) (tgt := 23) dX9_sheet_17 rfl rfl (fun c17 => ?_) (fun c17 => ?_)
      · refine sr_aload_n (i := 0) (pc' := 24) dX9_sheet_23 rfl rfl rfl ?_
        refine sr_getR (k := 36) (b := 85) (pc' := 27) cls_X9 dX9_sheet_24 rfl s88_61 rfl (by decide) w_349 ?_
        refine sr_iload_n (i := 1) (pc' := 28) dX9_sheet_27 rfl rfl rfl ?_
        refine sr_iload_n (i := 2) (pc' := 29) dX9_sheet_28 rfl rfl rfl ?_
        refine sr_iast (pc' := 30) dX9_sheet_29 rfl s88_85 (by decide) (fun μ2 hμ2 hμ2a hμ2b => ?_)
        refine sr_aload_n (i := 0) (pc' := 31) dX9_sheet_30 rfl rfl rfl ?_
        refine sr_getR (k := 37) (b := 86) (pc' := 34) cls_X9 dX9_sheet_31 rfl s88_61 rfl (by decide) w_350 ?_
        refine sr_iload_n (i := 1) (pc' := 35) dX9_sheet_34 rfl rfl rfl ?_
        refine sr_iload_n (i := 3) (pc' := 36) dX9_sheet_35 rfl rfl rfl ?_
        refine sr_iast (pc' := 37) dX9_sheet_36 rfl s88_86 (by decide) (fun μ3 hμ3 hμ3a hμ3b => ?_)
        refine sr_iconst (pc' := 38) dX9_sheet_37 rfl (by decide) ?_
        refine sr_istore (lv' := [some (vR 61), some (vI x1), some (vI x2), some (vI x3), some (vI 0)]) (pc' := 40) dX9_sheet_38 rfl (by decide) rfl ?_
        refine sr_fgt (fgt_s (fgt_s (fgt_n (fgt_n (fgt_s fgt_nil))))) ?_
        exact mod_sheet_40_s BIG x1 0 μ3
      · refine sr_bipush (pc' := 22) dX9_sheet_20 rfl (by decide) (by decide) ?_
        exact sr_iretI dX9_sheet_22 rfl rfl
    · refine sr_iconst (pc' := 15) dX9_sheet_14 rfl (by decide) ?_
      exact sr_iretI dX9_sheet_15 rfl rfl
def mod_shoe   (x1 x2 : Int) (μ : Mem) : Option (Int × Mem) := (mod_isCart μ x1).bind fun u1 => if u1 = 0 then (some ((-1), μ)) else ((mod_isWidth μ x2).bind fun u2 => if u2 = 0 then (some ((-1), μ)) else ((mod_of μ x1 0).bind fun u3 => if u3 = 3 then (some ((-2), μ)) else ((mod_of μ x1 1).bind fun u4 => (stx μ 62 555 (wI ((wI (1 + (wI (7 * x1)))) + 1)) x2).bind fun μ5 => some (u4, μ5))))
theorem mod_shoe_sp {l : Launch} {G : Nv}   (x1 x2 : Int) (μ : Mem) : SP l G S88 mX9_shoe [vR 61, vI x1, vI x2] μ (mod_shoe x1 x2 μ) jIM := by
  refine sp_go (lv := [some (vR 61), some (vI x1), some (vI x2), none]) pn_X9 (Nat.le_of_ble_eq_true rfl) rfl ?_
  unfold mod_shoe
  refine sr_aload_n (i := 0) (pc' := 1) dX9_shoe_0 rfl rfl rfl ?_
  refine sr_iload_n (i := 1) (pc' := 2) dX9_shoe_1 rfl rfl rfl ?_
  refine sr_callV1_I (pc' := 5) (mod_isCart_sp x1 μ) dX9_shoe_2 rfl mg_X9_isCart mi_X9_isCart (Or.inl ⟨9, _, TX9, 40, s88_61, rfl⟩) ⟨Nat.le_of_ble_eq_true rfl, Nat.le_of_ble_eq_true rfl⟩ w_345 (Nat.le_of_ble_eq_true rfl) (fun u1 hu1 hcu1 hzu1 => ?_)
  refine sr_if_eq (pc' := 8) (tgt := 15) dX9_shoe_5 rfl rfl (fun c5 => ?_) (fun c5 => ?_)
  · refine sr_iconst (pc' := 16) dX9_shoe_15 rfl (by decide) ?_
    exact sr_iretI dX9_shoe_16 rfl rfl
  · refine sr_iload_n (i := 2) (pc' := 9) dX9_shoe_8 rfl rfl rfl ?_
    refine sr_callS1_I (pc' := 12) (mod_isWidth_sp x2 μ) dX9_shoe_9 rfl mg_X9_isWidth ms_X9_isWidth ⟨Nat.le_of_ble_eq_true rfl, Nat.le_of_ble_eq_true rfl⟩ w_355 (Nat.le_of_ble_eq_true rfl) (fun u2 hu2 hcu2 hzu2 => ?_)
    refine sr_if_ne (pc' := 15) (tgt := 17) dX9_shoe_12 rfl rfl (fun c12 => ?_) (fun c12 => ?_)
    · refine sr_iconst (pc' := 16) dX9_shoe_15 rfl (by decide) ?_
      exact sr_iretI dX9_shoe_16 rfl rfl
    · refine sr_aload_n (i := 0) (pc' := 18) dX9_shoe_17 rfl rfl rfl ?_
      refine sr_iload_n (i := 1) (pc' := 19) dX9_shoe_18 rfl rfl rfl ?_
      refine sr_iconst (pc' := 20) dX9_shoe_19 rfl (by decide) ?_
      refine sr_callV2_I (pc' := 23) (mod_of_sp x1 0 μ) dX9_shoe_20 rfl mg_X9_of mi_X9_of (Or.inl ⟨9, _, TX9, 40, s88_61, rfl⟩) ⟨Nat.le_of_ble_eq_true rfl, Nat.le_of_ble_eq_true rfl⟩ w_314 (Nat.le_of_ble_eq_true rfl) (fun u3 hu3 hcu3 hzu3 => ?_)
      refine sr_iconst (pc' := 24) dX9_shoe_23 rfl (by decide) ?_
      refine sr_icmp_ne (pc' := 27) (tgt := 30) dX9_shoe_24 rfl rfl (fun c24 => ?_) (fun c24 => ?_)
      · refine sr_bipush (pc' := 29) dX9_shoe_27 rfl (by decide) (by decide) ?_
        exact sr_iretI dX9_shoe_29 rfl rfl
      · refine sr_aload_n (i := 0) (pc' := 31) dX9_shoe_30 rfl rfl rfl ?_
        refine sr_iload_n (i := 1) (pc' := 32) dX9_shoe_31 rfl rfl rfl ?_
        refine sr_iconst (pc' := 33) dX9_shoe_32 rfl (by decide) ?_
        refine sr_callV2_I (pc' := 36) (mod_of_sp x1 1 μ) dX9_shoe_33 rfl mg_X9_of mi_X9_of (Or.inl ⟨9, _, TX9, 40, s88_61, rfl⟩) ⟨Nat.le_of_ble_eq_true rfl, Nat.le_of_ble_eq_true rfl⟩ w_314 (Nat.le_of_ble_eq_true rfl) (fun u4 hu4 hcu4 hzu4 => ?_)
        refine sr_istore_n (i := 3) (lv' := [some (vR 61), some (vI x1), some (vI x2), some (vI u4)]) (pc' := 37) dX9_shoe_36 rfl rfl (by decide) rfl ?_
        refine sr_aload_n (i := 0) (pc' := 38) dX9_shoe_37 rfl rfl rfl ?_
        refine sr_getR (k := 0) (b := 62) (pc' := 41) cls_X9 dX9_shoe_38 rfl s88_61 rfl (by decide) w_311 ?_
        refine sr_iconst (pc' := 42) dX9_shoe_41 rfl (by decide) ?_
        refine sr_bipush (pc' := 44) dX9_shoe_42 rfl (by decide) (by decide) ?_
        refine sr_iload_n (i := 1) (pc' := 45) dX9_shoe_44 rfl rfl rfl ?_
        refine sr_imul (pc' := 46) dX9_shoe_45 rfl ?_
        refine sr_iadd (pc' := 47) dX9_shoe_46 rfl ?_
        refine sr_iconst (pc' := 48) dX9_shoe_47 rfl (by decide) ?_
        refine sr_iadd (pc' := 49) dX9_shoe_48 rfl ?_
        refine sr_iload_n (i := 2) (pc' := 50) dX9_shoe_49 rfl rfl rfl ?_
        refine sr_iast (pc' := 51) dX9_shoe_50 rfl s88_62 (by decide) (fun μ5 hμ5 hμ5a hμ5b => ?_)
        refine sr_iload_n (i := 3) (pc' := 52) dX9_shoe_51 rfl rfl rfl ?_
        exact sr_iretI dX9_shoe_52 rfl rfl
def mod_text_68  (k83 : Int → Mem → Option (Int × Mem)) (x1 s1 : Int) (μ : Mem) : Option (Int × Mem) := (mod_needs s1 6 μ).bind fun μ1 => (mod_areRuts μ1).bind fun u2 => (mod_needs u2 7 μ1).bind fun μ3 => k83 x1 μ3
theorem mod_text_68_s {l : Launch} {G : Nv}   {k83 : Int → Mem → Option (Int × Mem)} (hk83 : ∀ (x1 : Int) (μ : Mem) , SR l G S88 mX9_text (k83 x1 μ) jIM 83 [some (vR 61), some (vI x1)] [] μ) : ∀ (x1 s1 : Int) (μ : Mem), SR l G S88 mX9_text (mod_text_68 k83 x1 s1 μ) jIM 68 [some (vR 61), some (vI x1)] [vI s1, vR 61] μ := by
  intro x1 s1 μ
  unfold mod_text_68
  refine sr_bipush (pc' := 70) dX9_text_68 rfl (by decide) (by decide) ?_
  refine sr_callV2_M (pc' := 73) (mod_needs_sp s1 6 μ) dX9_text_70 rfl mg_X9_needs mi_X9_needs (Or.inl ⟨9, _, TX9, 40, s88_61, rfl⟩) ⟨Nat.le_of_ble_eq_true rfl, Nat.le_of_ble_eq_true rfl⟩ w_390 (Nat.le_of_ble_eq_true rfl) (fun μ1 hμ1 => ?_)
  refine sr_aload_n (i := 0) (pc' := 74) dX9_text_73 rfl rfl rfl ?_
  refine sr_aload_n (i := 0) (pc' := 75) dX9_text_74 rfl rfl rfl ?_
  refine sr_callV0_I (pc' := 78) (mod_areRuts_sp μ1) dX9_text_75 rfl mg_X9_areRuts mi_X9_areRuts (Or.inl ⟨9, _, TX9, 40, s88_61, rfl⟩) ⟨Nat.le_of_ble_eq_true rfl, Nat.le_of_ble_eq_true rfl⟩ w_416 (Nat.le_of_ble_eq_true rfl) (fun u2 hu2 hcu2 hzu2 => ?_)
  refine sr_bipush (pc' := 80) dX9_text_78 rfl (by decide) (by decide) ?_
  refine sr_callV2_M (pc' := 83) (mod_needs_sp u2 7 μ1) dX9_text_80 rfl mg_X9_needs mi_X9_needs (Or.inl ⟨9, _, TX9, 40, s88_61, rfl⟩) ⟨Nat.le_of_ble_eq_true rfl, Nat.le_of_ble_eq_true rfl⟩ w_390 (Nat.le_of_ble_eq_true rfl) (fun μ3 hμ3 => ?_)
  exact hk83 x1 μ3
def mod_text_83   (x1 : Int) (μ : Mem) : Option (Int × Mem) := bnd (mset μ 61 18 0) fun μ1 => if (μ1 61 23) ≤ 0 then ((mod_keepDraft μ1).bind fun μ2 => some (x1, μ2)) else (some (wI ((-10) - (μ1 61 24)), μ1))
theorem mod_text_83_s {l : Launch} {G : Nv}     : ∀ (x1 : Int) (μ : Mem), SR l G S88 mX9_text (mod_text_83 x1 μ) jIM 83 [some (vR 61), some (vI x1)] [] μ := by
  intro x1 μ
  unfold mod_text_83
  refine sr_aload_n (i := 0) (pc' := 84) dX9_text_83 rfl rfl rfl ?_
  refine sr_iconst (pc' := 85) dX9_text_84 rfl (by decide) ?_
  refine sr_putI (k := 18) (pc' := 88) cls_X9 dX9_text_85 rfl s88_61 rfl (by decide) w_348 rfl rfl (fun μ1 hμ1 => ?_)
  refine sr_aload_n (i := 0) (pc' := 89) dX9_text_88 rfl rfl rfl ?_
  refine sr_getI (k := 23) (pc' := 92) cls_X9 dX9_text_89 rfl s88_61 rfl (by decide) w_360 ?_
  refine sr_if_le (pc' := 95) (tgt := 103) dX9_text_92 rfl rfl (fun c92 => ?_) (fun c92 => ?_)
  · refine sr_aload_n (i := 0) (pc' := 104) dX9_text_103 rfl rfl rfl ?_
    refine sr_callV0_M (pc' := 107) (mod_keepDraft_sp μ1) dX9_text_104 rfl mg_X9_keepDraft mi_X9_keepDraft (Or.inl ⟨9, _, TX9, 40, s88_61, rfl⟩) ⟨Nat.le_of_ble_eq_true rfl, Nat.le_of_ble_eq_true rfl⟩ w_417 (Nat.le_of_ble_eq_true rfl) (fun μ2 hμ2 => ?_)
    refine sr_iload_n (i := 1) (pc' := 108) dX9_text_107 rfl rfl rfl ?_
    exact sr_iretI dX9_text_108 rfl rfl
  · refine sr_bipush (pc' := 97) dX9_text_95 rfl (by decide) (by decide) ?_
    refine sr_aload_n (i := 0) (pc' := 98) dX9_text_97 rfl rfl rfl ?_
    refine sr_getI (k := 24) (pc' := 101) cls_X9 dX9_text_98 rfl s88_61 rfl (by decide) w_389 ?_
    refine sr_isub (pc' := 102) dX9_text_101 rfl ?_
    exact sr_iretI dX9_text_102 rfl rfl
def mod_text_44   (x1 : Int) (μ : Mem) : Option (Int × Mem) := if (μ 61 23) = 0 then (if (μ 61 8) < (μ 61 16) then (mod_text_68 mod_text_83 x1 0 μ) else (mod_text_68 mod_text_83 x1 1 μ)) else (mod_text_83 x1 μ)
theorem mod_text_44_s {l : Launch} {G : Nv}     : ∀ (x1 : Int) (μ : Mem), SR l G S88 mX9_text (mod_text_44 x1 μ) jIM 44 [some (vR 61), some (vI x1)] [] μ := by
  intro x1 μ
  unfold mod_text_44
  refine sr_aload_n (i := 0) (pc' := 45) dX9_text_44 rfl rfl rfl ?_
  refine sr_getI (k := 23) (pc' := 48) cls_X9 dX9_text_45 rfl s88_61 rfl (by decide) w_360 ?_
  refine sr_if_ne (pc' := 51) (tgt := 83) dX9_text_48 rfl rfl (fun c48 => ?_) (fun c48 => ?_)
  · refine sr_aload_n (i := 0) (pc' := 52) dX9_text_51 rfl rfl rfl ?_
    refine sr_aload_n (i := 0) (pc' := 53) dX9_text_52 rfl rfl rfl ?_
    refine sr_getI (k := 16) (pc' := 56) cls_X9 dX9_text_53 rfl s88_61 rfl (by decide) w_374 ?_
    refine sr_aload_n (i := 0) (pc' := 57) dX9_text_56 rfl rfl rfl ?_
    refine sr_getI (k := 8) (pc' := 60) cls_X9 dX9_text_57 rfl s88_61 rfl (by decide) w_371 ?_
    refine sr_icmp_gt (pc' := 63) (tgt := 67) dX9_text_60 rfl rfl (fun c60 => ?_) (fun c60 => ?_)
    · refine sr_iconst (pc' := 68) dX9_text_67 rfl (by decide) ?_
      exact mod_text_68_s mod_text_83_s x1 0 μ
    · refine sr_iconst (pc' := 64) dX9_text_63 rfl (by decide) ?_
      refine sr_goto (pc' := 68) dX9_text_64 rfl ?_
      exact mod_text_68_s mod_text_83_s x1 1 μ
  · exact mod_text_83_s x1 μ
def mod_text_20   : Nat → Int → Mem → Option (Int × Mem)
  | 0, _, _ => none
  | n + 1, x1, μ => if (μ 61 23) = 0 then (if (μ 61 21) = 0 then (mod_text_44 x1 μ) else ((mod_readLine μ).bind fun μ1 => mod_text_20 n (wI (x1 + 1)) μ1)) else (mod_text_44 x1 μ)
theorem mod_text_20_s {l : Launch} {G : Nv}     : ∀ (n : Nat) (x1 : Int) (μ : Mem), SR l G S88 mX9_text (mod_text_20 n x1 μ) jIM 20 [some (vR 61), some (vI x1)] [] μ := by
  intro n
  induction n with
  | zero => intro x1 μ; exact sr_none
  | succ n ih =>
    intro x1 μ
    rw [mod_text_20.eq_2]
    refine sr_aload_n (i := 0) (pc' := 21) dX9_text_20 rfl rfl rfl ?_
    refine sr_getI (k := 23) (pc' := 24) cls_X9 dX9_text_21 rfl s88_61 rfl (by decide) w_360 ?_
    refine sr_if_ne (pc' := 27) (tgt := 44) dX9_text_24 rfl rfl (fun c24 => ?_) (fun c24 => ?_)
    · refine sr_aload_n (i := 0) (pc' := 28) dX9_text_27 rfl rfl rfl ?_
      refine sr_getI (k := 21) (pc' := 31) cls_X9 dX9_text_28 rfl s88_61 rfl (by decide) w_392 ?_
      refine sr_if_eq (pc' := 34) (tgt := 44) dX9_text_31 rfl rfl (fun c31 => ?_) (fun c31 => ?_)
      · exact mod_text_44_s x1 μ
      · refine sr_aload_n (i := 0) (pc' := 35) dX9_text_34 rfl rfl rfl ?_
        refine sr_callV0_M (pc' := 38) (mod_readLine_sp μ) dX9_text_35 rfl mg_X9_readLine mi_X9_readLine (Or.inl ⟨9, _, TX9, 40, s88_61, rfl⟩) ⟨Nat.le_of_ble_eq_true rfl, Nat.le_of_ble_eq_true rfl⟩ w_418 (Nat.le_of_ble_eq_true rfl) (fun μ1 hμ1 => ?_)
        refine sr_iinc (lv' := [some (vR 61), some (vI (wI (x1 + 1)))]) (pc' := 41) dX9_text_38 rfl (by decide) rfl rfl ?_
        refine sr_goto (pc' := 20) dX9_text_41 rfl ?_
        exact ih (wI (x1 + 1)) μ1
    · exact mod_text_44_s x1 μ
def mod_text   (μ : Mem) : Option (Int × Mem) := bnd (mset μ 61 23 0) fun μ1 => bnd (mset μ1 61 19 0) fun μ2 => (mod_firstDraft μ2).bind fun μ3 => (mod_next μ3).bind fun μ4 => mod_text_20 BIG 0 μ4
theorem mod_text_sp {l : Launch} {G : Nv}   (μ : Mem) : SP l G S88 mX9_text [vR 61] μ (mod_text μ) jIM := by
  refine sp_go (lv := [some (vR 61), none]) pn_X9 (Nat.le_of_ble_eq_true rfl) rfl ?_
  unfold mod_text
  refine sr_iconst (pc' := 1) dX9_text_0 rfl (by decide) ?_
  refine sr_istore_n (i := 1) (lv' := [some (vR 61), some (vI 0)]) (pc' := 2) dX9_text_1 rfl rfl (by decide) rfl ?_
  refine sr_aload_n (i := 0) (pc' := 3) dX9_text_2 rfl rfl rfl ?_
  refine sr_iconst (pc' := 4) dX9_text_3 rfl (by decide) ?_
  refine sr_putI (k := 23) (pc' := 7) cls_X9 dX9_text_4 rfl s88_61 rfl (by decide) w_360 rfl rfl (fun μ1 hμ1 => ?_)
  refine sr_aload_n (i := 0) (pc' := 8) dX9_text_7 rfl rfl rfl ?_
  refine sr_iconst (pc' := 9) dX9_text_8 rfl (by decide) ?_
  refine sr_putI (k := 19) (pc' := 12) cls_X9 dX9_text_9 rfl s88_61 rfl (by decide) w_379 rfl rfl (fun μ2 hμ2 => ?_)
  refine sr_aload_n (i := 0) (pc' := 13) dX9_text_12 rfl rfl rfl ?_
  refine sr_callV0_M (pc' := 16) (mod_firstDraft_sp μ2) dX9_text_13 rfl mg_X9_firstDraft mi_X9_firstDraft (Or.inl ⟨9, _, TX9, 40, s88_61, rfl⟩) ⟨Nat.le_of_ble_eq_true rfl, Nat.le_of_ble_eq_true rfl⟩ w_419 (Nat.le_of_ble_eq_true rfl) (fun μ3 hμ3 => ?_)
  refine sr_aload_n (i := 0) (pc' := 17) dX9_text_16 rfl rfl rfl ?_
  refine sr_callV0_M (pc' := 20) (mod_next_sp μ3) dX9_text_17 rfl mg_X9_next mi_X9_next (Or.inl ⟨9, _, TX9, 40, s88_61, rfl⟩) ⟨Nat.le_of_ble_eq_true rfl, Nat.le_of_ble_eq_true rfl⟩ w_406 (Nat.le_of_ble_eq_true rfl) (fun μ4 hμ4 => ?_)
  exact mod_text_20_s BIG 0 μ4
def mod_torn (μ : Mem)  : Option (Int) := some (μ 61 39)
theorem mod_torn_sp {l : Launch} {G : Nv}   (μ : Mem) : SP l G S88 mX9_torn [vR 61] μ (mod_torn μ) (jI μ) := by
  refine sp_go (lv := [some (vR 61)]) pn_X9 (Nat.le_of_ble_eq_true rfl) rfl ?_
  unfold mod_torn
  refine sr_aload_n (i := 0) (pc' := 1) dX9_torn_0 rfl rfl rfl ?_
  refine sr_getI (k := 39) (pc' := 4) cls_X9 dX9_torn_1 rfl s88_61 rfl (by decide) w_404 ?_
  exact sr_iretI dX9_torn_4 rfl rfl
def mod_waited   (x1 x2 : Int) (μ : Mem) : Option (Int × Mem) := (mod_isCart μ x1).bind fun u1 => if u1 = 0 then (some ((-1), μ)) else ((mod_isTime μ x2).bind fun u2 => if u2 = 0 then (some ((-1), μ)) else ((mod_byNumbers μ).bind fun μ3 => (mod_runs x2 μ3).bind fun μ4 => (ld μ4 77 5 x1).bind fun v5 => some (v5, μ4)))
theorem mod_waited_sp {l : Launch} {G : Nv}   (x1 x2 : Int) (μ : Mem) : SP l G S88 mX9_waited [vR 61, vI x1, vI x2] μ (mod_waited x1 x2 μ) jIM := by
  refine sp_go (lv := [some (vR 61), some (vI x1), some (vI x2)]) pn_X9 (Nat.le_of_ble_eq_true rfl) rfl ?_
  unfold mod_waited
  refine sr_aload_n (i := 0) (pc' := 1) dX9_waited_0 rfl rfl rfl ?_
  refine sr_iload_n (i := 1) (pc' := 2) dX9_waited_1 rfl rfl rfl ?_
  refine sr_callV1_I (pc' := 5) (mod_isCart_sp x1 μ) dX9_waited_2 rfl mg_X9_isCart mi_X9_isCart (Or.inl ⟨9, _, TX9, 40, s88_61, rfl⟩) ⟨Nat.le_of_ble_eq_true rfl, Nat.le_of_ble_eq_true rfl⟩ w_345 (Nat.le_of_ble_eq_true rfl) (fun u1 hu1 hcu1 hzu1 => ?_)
  refine sr_if_eq (pc' := 8) (tgt := 15) dX9_waited_5 rfl rfl (fun c5 => ?_) (fun c5 => ?_)
  · refine sr_iconst (pc' := 16) dX9_waited_15 rfl (by decide) ?_
    exact sr_iretI dX9_waited_16 rfl rfl
  · refine sr_iload_n (i := 2) (pc' := 9) dX9_waited_8 rfl rfl rfl ?_
    refine sr_callS1_I (pc' := 12) (mod_isTime_sp x2 μ) dX9_waited_9 rfl mg_X9_isTime ms_X9_isTime ⟨Nat.le_of_ble_eq_true rfl, Nat.le_of_ble_eq_true rfl⟩ w_352 (Nat.le_of_ble_eq_true rfl) (fun u2 hu2 hcu2 hzu2 => ?_)
    refine sr_if_ne (pc' := 15) (tgt := 17) dX9_waited_12 rfl rfl (fun c12 => ?_) (fun c12 => ?_)
    · refine sr_iconst (pc' := 16) dX9_waited_15 rfl (by decide) ?_
      exact sr_iretI dX9_waited_16 rfl rfl
    · refine sr_aload_n (i := 0) (pc' := 18) dX9_waited_17 rfl rfl rfl ?_
      refine sr_callV0_M (pc' := 21) (mod_byNumbers_sp μ) dX9_waited_18 rfl mg_X9_byNumbers mi_X9_byNumbers (Or.inl ⟨9, _, TX9, 40, s88_61, rfl⟩) ⟨Nat.le_of_ble_eq_true rfl, Nat.le_of_ble_eq_true rfl⟩ w_353 (Nat.le_of_ble_eq_true rfl) (fun μ3 hμ3 => ?_)
      refine sr_aload_n (i := 0) (pc' := 22) dX9_waited_21 rfl rfl rfl ?_
      refine sr_iload_n (i := 2) (pc' := 23) dX9_waited_22 rfl rfl rfl ?_
      refine sr_callV1_M (pc' := 26) (mod_runs_sp x2 μ3) dX9_waited_23 rfl mg_X9_runs mi_X9_runs (Or.inl ⟨9, _, TX9, 40, s88_61, rfl⟩) ⟨Nat.le_of_ble_eq_true rfl, Nat.le_of_ble_eq_true rfl⟩ w_328 (Nat.le_of_ble_eq_true rfl) (fun μ4 hμ4 => ?_)
      refine sr_aload_n (i := 0) (pc' := 27) dX9_waited_26 rfl rfl rfl ?_
      refine sr_getR (k := 27) (b := 77) (pc' := 30) cls_X9 dX9_waited_27 rfl s88_61 rfl (by decide) w_316 ?_
      refine sr_iload_n (i := 1) (pc' := 31) dX9_waited_30 rfl rfl rfl ?_
      refine sr_iald (pc' := 32) dX9_waited_31 rfl s88_77 (by decide) (fun v5 hv5 hv5a hv5b => ?_)
      exact sr_iretI dX9_waited_32 rfl rfl
def mod_way_245  (k162 : Int → Int → Int → Int → Int → Int → Int → Mem → Option (Int × Mem)) (x1 x2 x3 x4 x7 x8 s0 : Int) (μ : Mem) : Option (Int × Mem) := k162 x1 x2 x3 x4 s0 x7 (wI (x8 + (-1))) μ
theorem mod_way_245_s {l : Launch} {G : Nv}   {k162 : Int → Int → Int → Int → Int → Int → Int → Mem → Option (Int × Mem)} (hk162 : ∀ (x1 x2 x3 x4 x6 x7 x8 : Int) (μ : Mem) , SR l G S88 mX9_way (k162 x1 x2 x3 x4 x6 x7 x8 μ) jIM 162 [some (vR 61), some (vI x1), some (vI x2), some (vI x3), some (vI x4), none, some (vI x6), some (vI x7), some (vI x8), none, none] [] μ) : ∀ (x1 x2 x3 x4 x7 x8 s0 : Int) (μ : Mem), SR l G S88 mX9_way (mod_way_245 k162 x1 x2 x3 x4 x7 x8 s0 μ) jIM 245 [some (vR 61), some (vI x1), some (vI x2), some (vI x3), some (vI x4), none, none, some (vI x7), some (vI x8), none, none] [vI s0] μ := by
  intro x1 x2 x3 x4 x7 x8 s0 μ
  unfold mod_way_245
  refine sr_istore (lv' := [some (vR 61), some (vI x1), some (vI x2), some (vI x3), some (vI x4), none, some (vI s0), some (vI x7), some (vI x8), none, none]) (pc' := 247) dX9_way_245 rfl (by decide) rfl ?_
  refine sr_iinc (lv' := [some (vR 61), some (vI x1), some (vI x2), some (vI x3), some (vI x4), none, some (vI s0), some (vI x7), some (vI (wI (x8 + (-1)))), none, none]) (pc' := 250) dX9_way_247 rfl (by decide) rfl rfl ?_
  refine sr_goto (pc' := 162) dX9_way_250 rfl ?_
  exact hk162 x1 x2 x3 x4 s0 x7 (wI (x8 + (-1))) μ
def mod_way_231  (k162 : Int → Int → Int → Int → Int → Int → Int → Mem → Option (Int × Mem)) (x1 x2 x3 x4 x6 x7 x8 s0 : Int) (μ : Mem) : Option (Int × Mem) := if s0 = 0 then (mod_way_245 k162 x1 x2 x3 x4 x7 x8 x6 μ) else (mod_way_245 k162 x1 x2 x3 x4 x7 x8 x8 μ)
theorem mod_way_231_s {l : Launch} {G : Nv}   {k162 : Int → Int → Int → Int → Int → Int → Int → Mem → Option (Int × Mem)} (hk162 : ∀ (x1 x2 x3 x4 x6 x7 x8 : Int) (μ : Mem) , SR l G S88 mX9_way (k162 x1 x2 x3 x4 x6 x7 x8 μ) jIM 162 [some (vR 61), some (vI x1), some (vI x2), some (vI x3), some (vI x4), none, some (vI x6), some (vI x7), some (vI x8), none, none] [] μ) : ∀ (x1 x2 x3 x4 x6 x7 x8 s0 : Int) (μ : Mem), SR l G S88 mX9_way (mod_way_231 k162 x1 x2 x3 x4 x6 x7 x8 s0 μ) jIM 231 [some (vR 61), some (vI x1), some (vI x2), some (vI x3), some (vI x4), none, some (vI x6), some (vI x7), some (vI x8), none, none] [vI s0] μ := by
  intro x1 x2 x3 x4 x6 x7 x8 s0 μ
  unfold mod_way_231
  refine sr_istore (lv' := [some (vR 61), some (vI x1), some (vI x2), some (vI x3), some (vI x4), none, some (vI x6), some (vI x7), some (vI x8), none, some (vI s0)]) (pc' := 233) dX9_way_231 rfl (by decide) rfl ?_
  refine sr_iload (pc' := 235) dX9_way_233 rfl rfl ?_
  refine sr_if_eq (pc' := 238) (tgt := 243) dX9_way_235 rfl rfl (fun c235 => ?_) (fun c235 => ?_)
  · refine sr_iload (pc' := 245) dX9_way_243 rfl rfl ?_
    refine sr_fgt (fgt_s (fgt_s (fgt_s (fgt_s (fgt_s (fgt_s (fgt_n (fgt_s (fgt_s (fgt_s (fgt_n fgt_nil))))))))))) ?_
    exact mod_way_245_s hk162 x1 x2 x3 x4 x7 x8 x6 μ
  · refine sr_iload (pc' := 240) dX9_way_238 rfl rfl ?_
    refine sr_goto (pc' := 245) dX9_way_240 rfl ?_
    refine sr_fgt (fgt_s (fgt_s (fgt_s (fgt_s (fgt_s (fgt_s (fgt_n (fgt_s (fgt_s (fgt_s (fgt_n fgt_nil))))))))))) ?_
    exact mod_way_245_s hk162 x1 x2 x3 x4 x7 x8 x8 μ
def mod_way_162  (k146 : Int → Int → Int → Int → Int → Int → Mem → Option (Int × Mem)) : Nat → Int → Int → Int → Int → Int → Int → Int → Mem → Option (Int × Mem)
  | 0, _, _, _, _, _, _, _, _ => none
  | n + 1, x1, x2, x3, x4, x6, x7, x8, μ => if x8 < 0 then ((mod_then μ x1 x4 x6).bind fun u1 => k146 x1 x2 x3 u1 x6 (wI (x7 + 1)) μ) else ((mod_then μ x1 x4 x8).bind fun u2 => if u2 = (-4) then (mod_way_231 (mod_way_162 k146 n) x1 x2 x3 x4 x6 x7 x8 0 μ) else ((ld μ 83 63 u2).bind fun v3 => if v3 = 1000000000 then (mod_way_231 (mod_way_162 k146 n) x1 x2 x3 x4 x6 x7 x8 0 μ) else ((ld μ 83 63 u2).bind fun v4 => (mod_keyOf μ x1 x4 x8 x2).bind fun u5 => (ld μ 83 63 x4).bind fun v6 => if (wI (v4 + u5)) = v6 then (mod_way_231 (mod_way_162 k146 n) x1 x2 x3 x4 x6 x7 x8 1 μ) else (mod_way_231 (mod_way_162 k146 n) x1 x2 x3 x4 x6 x7 x8 0 μ))))
theorem mod_way_162_s {l : Launch} {G : Nv}   {k146 : Int → Int → Int → Int → Int → Int → Mem → Option (Int × Mem)} (hk146 : ∀ (x1 x2 x3 x4 x6 x7 : Int) (μ : Mem) , SR l G S88 mX9_way (k146 x1 x2 x3 x4 x6 x7 μ) jIM 146 [some (vR 61), some (vI x1), some (vI x2), some (vI x3), some (vI x4), none, some (vI x6), some (vI x7), none, none, none] [] μ) : ∀ (n : Nat) (x1 x2 x3 x4 x6 x7 x8 : Int) (μ : Mem), SR l G S88 mX9_way (mod_way_162 k146 n x1 x2 x3 x4 x6 x7 x8 μ) jIM 162 [some (vR 61), some (vI x1), some (vI x2), some (vI x3), some (vI x4), none, some (vI x6), some (vI x7), some (vI x8), none, none] [] μ := by
  intro n
  induction n with
  | zero => intro x1 x2 x3 x4 x6 x7 x8 μ; exact sr_none
  | succ n ih =>
    intro x1 x2 x3 x4 x6 x7 x8 μ
    rw [mod_way_162.eq_2]
    refine sr_iload (pc' := 164) dX9_way_162 rfl rfl ?_
    refine sr_if_lt (pc' := 167) (tgt := 253) dX9_way_164 rfl rfl (fun c164 => ?_) (fun c164 => ?_)
    · refine sr_aload_n (i := 0) (pc' := 254) dX9_way_253 rfl rfl rfl ?_
      refine sr_iload_n (i := 1) (pc' := 255) dX9_way_254 rfl rfl rfl ?_
      refine sr_iload (pc' := 257) dX9_way_255 rfl rfl ?_
      refine sr_iload (pc' := 259) dX9_way_257 rfl rfl ?_
      refine sr_callV3_I (pc' := 262) (mod_then_sp x1 x4 x6 μ) dX9_way_259 rfl mg_X9_then mi_X9_then (Or.inl ⟨9, _, TX9, 40, s88_61, rfl⟩) ⟨Nat.le_of_ble_eq_true rfl, Nat.le_of_ble_eq_true rfl⟩ w_343 (Nat.le_of_ble_eq_true rfl) (fun u1 hu1 hcu1 hzu1 => ?_)
      refine sr_istore (lv' := [some (vR 61), some (vI x1), some (vI x2), some (vI x3), some (vI u1), none, some (vI x6), some (vI x7), some (vI x8), none, none]) (pc' := 264) dX9_way_262 rfl (by decide) rfl ?_
      refine sr_iinc (lv' := [some (vR 61), some (vI x1), some (vI x2), some (vI x3), some (vI u1), none, some (vI x6), some (vI (wI (x7 + 1))), some (vI x8), none, none]) (pc' := 267) dX9_way_264 rfl (by decide) rfl rfl ?_
      refine sr_goto (pc' := 146) dX9_way_267 rfl ?_
      refine sr_fgt (fgt_s (fgt_s (fgt_s (fgt_s (fgt_s (fgt_s (fgt_s (fgt_s (fgt_n (fgt_s (fgt_s fgt_nil))))))))))) ?_
      exact hk146 x1 x2 x3 u1 x6 (wI (x7 + 1)) μ
    · refine sr_aload_n (i := 0) (pc' := 168) dX9_way_167 rfl rfl rfl ?_
      refine sr_iload_n (i := 1) (pc' := 169) dX9_way_168 rfl rfl rfl ?_
      refine sr_iload (pc' := 171) dX9_way_169 rfl rfl ?_
      refine sr_iload (pc' := 173) dX9_way_171 rfl rfl ?_
      refine sr_callV3_I (pc' := 176) (mod_then_sp x1 x4 x8 μ) dX9_way_173 rfl mg_X9_then mi_X9_then (Or.inl ⟨9, _, TX9, 40, s88_61, rfl⟩) ⟨Nat.le_of_ble_eq_true rfl, Nat.le_of_ble_eq_true rfl⟩ w_343 (Nat.le_of_ble_eq_true rfl) (fun u2 hu2 hcu2 hzu2 => ?_)
      refine sr_istore (lv' := [some (vR 61), some (vI x1), some (vI x2), some (vI x3), some (vI x4), none, some (vI x6), some (vI x7), some (vI x8), some (vI u2), none]) (pc' := 178) dX9_way_176 rfl (by decide) rfl ?_
      refine sr_iload (pc' := 180) dX9_way_178 rfl rfl ?_
      refine sr_bipush (pc' := 182) dX9_way_180 rfl (by decide) (by decide) ?_
      refine sr_icmp_eq (pc' := 185) (tgt := 230) dX9_way_182 rfl rfl (fun c182 => ?_) (fun c182 => ?_)
      · refine sr_iconst (pc' := 231) dX9_way_230 rfl (by decide) ?_
        refine sr_fgt (fgt_s (fgt_s (fgt_s (fgt_s (fgt_s (fgt_s (fgt_s (fgt_s (fgt_s (fgt_n (fgt_s fgt_nil))))))))))) ?_
        exact mod_way_231_s ih x1 x2 x3 x4 x6 x7 x8 0 μ
      · refine sr_aload_n (i := 0) (pc' := 186) dX9_way_185 rfl rfl rfl ?_
        refine sr_getR (k := 34) (b := 83) (pc' := 189) cls_X9 dX9_way_186 rfl s88_61 rfl (by decide) w_365 ?_
        refine sr_iload (pc' := 191) dX9_way_189 rfl rfl ?_
        refine sr_iald (pc' := 192) dX9_way_191 rfl s88_83 (by decide) (fun v3 hv3 hv3a hv3b => ?_)
        refine sr_ldcw (x := 1000000000) (pc' := 195) dX9_way_192 rfl (by decide) w_366 ?_
        refine sr_icmp_eq (pc' := 198) (tgt := 230) dX9_way_195 rfl rfl (fun c195 => ?_) (fun c195 => ?_)
        · refine sr_iconst (pc' := 231) dX9_way_230 rfl (by decide) ?_
          refine sr_fgt (fgt_s (fgt_s (fgt_s (fgt_s (fgt_s (fgt_s (fgt_s (fgt_s (fgt_s (fgt_n (fgt_s fgt_nil))))))))))) ?_
          exact mod_way_231_s ih x1 x2 x3 x4 x6 x7 x8 0 μ
        · refine sr_aload_n (i := 0) (pc' := 199) dX9_way_198 rfl rfl rfl ?_
          refine sr_getR (k := 34) (b := 83) (pc' := 202) cls_X9 dX9_way_199 rfl s88_61 rfl (by decide) w_365 ?_
          refine sr_iload (pc' := 204) dX9_way_202 rfl rfl ?_
          refine sr_iald (pc' := 205) dX9_way_204 rfl s88_83 (by decide) (fun v4 hv4 hv4a hv4b => ?_)
          refine sr_aload_n (i := 0) (pc' := 206) dX9_way_205 rfl rfl rfl ?_
          refine sr_iload_n (i := 1) (pc' := 207) dX9_way_206 rfl rfl rfl ?_
          refine sr_iload (pc' := 209) dX9_way_207 rfl rfl ?_
          refine sr_iload (pc' := 211) dX9_way_209 rfl rfl ?_
          refine sr_iload_n (i := 2) (pc' := 212) dX9_way_211 rfl rfl rfl ?_
          refine sr_callV4_I (pc' := 215) (mod_keyOf_sp x1 x4 x8 x2 μ) dX9_way_212 rfl mg_X9_keyOf mi_X9_keyOf (Or.inl ⟨9, _, TX9, 40, s88_61, rfl⟩) ⟨Nat.le_of_ble_eq_true rfl, Nat.le_of_ble_eq_true rfl⟩ w_367 (Nat.le_of_ble_eq_true rfl) (fun u5 hu5 hcu5 hzu5 => ?_)
          refine sr_iadd (pc' := 216) dX9_way_215 rfl ?_
          refine sr_aload_n (i := 0) (pc' := 217) dX9_way_216 rfl rfl rfl ?_
          refine sr_getR (k := 34) (b := 83) (pc' := 220) cls_X9 dX9_way_217 rfl s88_61 rfl (by decide) w_365 ?_
          refine sr_iload (pc' := 222) dX9_way_220 rfl rfl ?_
          refine sr_iald (pc' := 223) dX9_way_222 rfl s88_83 (by decide) (fun v6 hv6 hv6a hv6b => ?_)
          refine sr_icmp_ne (pc' := 226) (tgt := 230) dX9_way_223 rfl rfl (fun c223 => ?_) (fun c223 => ?_)
          · refine sr_iconst (pc' := 227) dX9_way_226 rfl (by decide) ?_
            refine sr_goto (pc' := 231) dX9_way_227 rfl ?_
            refine sr_fgt (fgt_s (fgt_s (fgt_s (fgt_s (fgt_s (fgt_s (fgt_s (fgt_s (fgt_s (fgt_n (fgt_s fgt_nil))))))))))) ?_
            exact mod_way_231_s ih x1 x2 x3 x4 x6 x7 x8 1 μ
          · refine sr_iconst (pc' := 231) dX9_way_230 rfl (by decide) ?_
            refine sr_fgt (fgt_s (fgt_s (fgt_s (fgt_s (fgt_s (fgt_s (fgt_s (fgt_s (fgt_s (fgt_n (fgt_s fgt_nil))))))))))) ?_
            exact mod_way_231_s ih x1 x2 x3 x4 x6 x7 x8 0 μ
def mod_way_146   : Nat → Int → Int → Int → Int → Int → Int → Mem → Option (Int × Mem)
  | 0, _, _, _, _, _, _, _ => none
  | n + 1, x1, x2, x3, x4, x6, x7, μ => if (wI (x3 - 10)) < x7 then (some (x6, μ)) else (mod_way_162 (mod_way_146 n) BIG x1 x2 x3 x4 (-4) x7 4 μ)
theorem mod_way_146_s {l : Launch} {G : Nv}     : ∀ (n : Nat) (x1 x2 x3 x4 x6 x7 : Int) (μ : Mem), SR l G S88 mX9_way (mod_way_146 n x1 x2 x3 x4 x6 x7 μ) jIM 146 [some (vR 61), some (vI x1), some (vI x2), some (vI x3), some (vI x4), none, some (vI x6), some (vI x7), none, none, none] [] μ := by
  intro n
  induction n with
  | zero => intro x1 x2 x3 x4 x6 x7 μ; exact sr_none
  | succ n ih =>
    intro x1 x2 x3 x4 x6 x7 μ
    rw [mod_way_146.eq_2]
    refine sr_iload (pc' := 148) dX9_way_146 rfl rfl ?_
    refine sr_iload_n (i := 3) (pc' := 149) dX9_way_148 rfl rfl rfl ?_
    refine sr_bipush (pc' := 151) dX9_way_149 rfl (by decide) (by decide) ?_
    refine sr_isub (pc' := 152) dX9_way_151 rfl ?_
    refine sr_icmp_gt (pc' := 155) (tgt := 270) dX9_way_152 rfl rfl (fun c152 => ?_) (fun c152 => ?_)
    · refine sr_iload (pc' := 272) dX9_way_270 rfl rfl ?_
      exact sr_iretI dX9_way_272 rfl rfl
    · refine sr_bipush (pc' := 157) dX9_way_155 rfl (by decide) (by decide) ?_
      refine sr_istore (lv' := [some (vR 61), some (vI x1), some (vI x2), some (vI x3), some (vI x4), none, some (vI (-4)), some (vI x7), none, none, none]) (pc' := 159) dX9_way_157 rfl (by decide) rfl ?_
      refine sr_iconst (pc' := 160) dX9_way_159 rfl (by decide) ?_
      refine sr_istore (lv' := [some (vR 61), some (vI x1), some (vI x2), some (vI x3), some (vI x4), none, some (vI (-4)), some (vI x7), some (vI 4), none, none]) (pc' := 162) dX9_way_160 rfl (by decide) rfl ?_
      exact mod_way_162_s ih BIG x1 x2 x3 x4 (-4) x7 4 μ
def mod_way_38   (x1 x2 x3 : Int) (μ : Mem) : Option (Int × Mem) := (mod_findLeast x1 x2 μ).bind fun μ1 => (mod_of μ1 x1 4).bind fun u2 => (mod_of μ1 x1 1).bind fun u3 => bnd (wI ((wI (3 * u2)) + u3)) fun v4 => (ld μ1 83 63 v4).bind fun v5 => if v5 = 1000000000 then (some ((-4), μ1)) else (if x3 = 2 then (some (iRem v5 1000, μ1)) else (if 2 ≤ x3 then (if (wI (x3 - 10)) < (iRem v5 1000) then (mod_way_146 BIG x1 x2 x3 v4 (-4) 0 μ1) else (some ((-4), μ1))) else (if x3 = x2 then (some (iDiv v5 1000000, μ1)) else (some (iRem (iDiv v5 1000) 1000, μ1)))))
theorem mod_way_38_s {l : Launch} {G : Nv}     : ∀ (x1 x2 x3 : Int) (μ : Mem), SR l G S88 mX9_way (mod_way_38 x1 x2 x3 μ) jIM 38 [some (vR 61), some (vI x1), some (vI x2), some (vI x3), none, none, none, none, none, none, none] [] μ := by
  intro x1 x2 x3 μ
  unfold mod_way_38
  refine sr_aload_n (i := 0) (pc' := 39) dX9_way_38 rfl rfl rfl ?_
  refine sr_iload_n (i := 1) (pc' := 40) dX9_way_39 rfl rfl rfl ?_
  refine sr_iload_n (i := 2) (pc' := 41) dX9_way_40 rfl rfl rfl ?_
  refine sr_callV2_M (pc' := 44) (mod_findLeast_sp x1 x2 μ) dX9_way_41 rfl mg_X9_findLeast mi_X9_findLeast (Or.inl ⟨9, _, TX9, 40, s88_61, rfl⟩) ⟨Nat.le_of_ble_eq_true rfl, Nat.le_of_ble_eq_true rfl⟩ w_420 (Nat.le_of_ble_eq_true rfl) (fun μ1 hμ1 => ?_)
  refine sr_iconst (pc' := 45) dX9_way_44 rfl (by decide) ?_
  refine sr_aload_n (i := 0) (pc' := 46) dX9_way_45 rfl rfl rfl ?_
  refine sr_iload_n (i := 1) (pc' := 47) dX9_way_46 rfl rfl rfl ?_
  refine sr_iconst (pc' := 48) dX9_way_47 rfl (by decide) ?_
  refine sr_callV2_I (pc' := 51) (mod_of_sp x1 4 μ1) dX9_way_48 rfl mg_X9_of mi_X9_of (Or.inl ⟨9, _, TX9, 40, s88_61, rfl⟩) ⟨Nat.le_of_ble_eq_true rfl, Nat.le_of_ble_eq_true rfl⟩ w_314 (Nat.le_of_ble_eq_true rfl) (fun u2 hu2 hcu2 hzu2 => ?_)
  refine sr_imul (pc' := 52) dX9_way_51 rfl ?_
  refine sr_aload_n (i := 0) (pc' := 53) dX9_way_52 rfl rfl rfl ?_
  refine sr_iload_n (i := 1) (pc' := 54) dX9_way_53 rfl rfl rfl ?_
  refine sr_iconst (pc' := 55) dX9_way_54 rfl (by decide) ?_
  refine sr_callV2_I (pc' := 58) (mod_of_sp x1 1 μ1) dX9_way_55 rfl mg_X9_of mi_X9_of (Or.inl ⟨9, _, TX9, 40, s88_61, rfl⟩) ⟨Nat.le_of_ble_eq_true rfl, Nat.le_of_ble_eq_true rfl⟩ w_314 (Nat.le_of_ble_eq_true rfl) (fun u3 hu3 hcu3 hzu3 => ?_)
  refine sr_iadd (pc' := 59) dX9_way_58 rfl ?_
  refine sr_bnd (fun v4 hv4 => ?_)
  refine sr_istore (lv' := [some (vR 61), some (vI x1), some (vI x2), some (vI x3), some (vI v4), none, none, none, none, none, none]) (pc' := 61) dX9_way_59 rfl (by decide) rfl ?_
  refine sr_aload_n (i := 0) (pc' := 62) dX9_way_61 rfl rfl rfl ?_
  refine sr_getR (k := 34) (b := 83) (pc' := 65) cls_X9 dX9_way_62 rfl s88_61 rfl (by decide) w_365 ?_
  refine sr_iload (pc' := 67) dX9_way_65 rfl rfl ?_
  refine sr_iald (pc' := 68) dX9_way_67 rfl s88_83 (by decide) (fun v5 hv5 hv5a hv5b => ?_)
  refine sr_istore (lv' := [some (vR 61), some (vI x1), some (vI x2), some (vI x3), some (vI v4), some (vI v5), none, none, none, none, none]) (pc' := 70) dX9_way_68 rfl (by decide) rfl ?_
  refine sr_iload (pc' := 72) dX9_way_70 rfl rfl ?_
  refine sr_ldcw (x := 1000000000) (pc' := 75) dX9_way_72 rfl (by decide) w_366 ?_
  refine sr_icmp_ne (pc' := 78) (tgt := 81) dX9_way_75 rfl rfl (fun c75 => ?_) (fun c75 => ?_)
  · refine sr_bipush (pc' := 80) dX9_way_78 rfl (by decide) (by decide) ?_
    exact sr_iretI dX9_way_80 rfl rfl
  · refine sr_iload_n (i := 3) (pc' := 82) dX9_way_81 rfl rfl rfl ?_
    refine sr_iconst (pc' := 83) dX9_way_82 rfl (by decide) ?_
    refine sr_icmp_ne (pc' := 86) (tgt := 93) dX9_way_83 rfl rfl (fun c83 => ?_) (fun c83 => ?_)
    · refine sr_iload (pc' := 88) dX9_way_86 rfl rfl ?_
      refine sr_sipush (pc' := 91) dX9_way_88 rfl (by decide) (by decide) ?_
      refine sr_irem (pc' := 92) dX9_way_91 rfl (by decide) ?_
      exact sr_iretI dX9_way_92 rfl rfl
    · refine sr_iload_n (i := 3) (pc' := 94) dX9_way_93 rfl rfl rfl ?_
      refine sr_iconst (pc' := 95) dX9_way_94 rfl (by decide) ?_
      refine sr_icmp_ge (pc' := 98) (tgt := 123) dX9_way_95 rfl rfl (fun c95 => ?_) (fun c95 => ?_)
      · refine sr_iload_n (i := 3) (pc' := 124) dX9_way_123 rfl rfl rfl ?_
        refine sr_bipush (pc' := 126) dX9_way_124 rfl (by decide) (by decide) ?_
        refine sr_isub (pc' := 127) dX9_way_126 rfl ?_
        refine sr_iload (pc' := 129) dX9_way_127 rfl rfl ?_
        refine sr_sipush (pc' := 132) dX9_way_129 rfl (by decide) (by decide) ?_
        refine sr_irem (pc' := 133) dX9_way_132 rfl (by decide) ?_
        refine sr_icmp_lt (pc' := 136) (tgt := 139) dX9_way_133 rfl rfl (fun c133 => ?_) (fun c133 => ?_)
        · refine sr_bipush (pc' := 141) dX9_way_139 rfl (by decide) (by decide) ?_
          refine sr_istore (lv' := [some (vR 61), some (vI x1), some (vI x2), some (vI x3), some (vI v4), some (vI v5), some (vI (-4)), none, none, none, none]) (pc' := 143) dX9_way_141 rfl (by decide) rfl ?_
          refine sr_iconst (pc' := 144) dX9_way_143 rfl (by decide) ?_
          refine sr_istore (lv' := [some (vR 61), some (vI x1), some (vI x2), some (vI x3), some (vI v4), some (vI v5), some (vI (-4)), some (vI 0), none, none, none]) (pc' := 146) dX9_way_144 rfl (by decide) rfl ?_
          refine sr_fgt (fgt_s (fgt_s (fgt_s (fgt_s (fgt_s (fgt_n (fgt_s (fgt_s (fgt_s (fgt_s (fgt_s fgt_nil))))))))))) ?_
          exact mod_way_146_s BIG x1 x2 x3 v4 (-4) 0 μ1
        · refine sr_bipush (pc' := 138) dX9_way_136 rfl (by decide) (by decide) ?_
          exact sr_iretI dX9_way_138 rfl rfl
      · refine sr_iload_n (i := 3) (pc' := 99) dX9_way_98 rfl rfl rfl ?_
        refine sr_iload_n (i := 2) (pc' := 100) dX9_way_99 rfl rfl rfl ?_
        refine sr_icmp_ne (pc' := 103) (tgt := 112) dX9_way_100 rfl rfl (fun c100 => ?_) (fun c100 => ?_)
        · refine sr_iload (pc' := 105) dX9_way_103 rfl rfl ?_
          refine sr_ldcw (x := 1000000) (pc' := 108) dX9_way_105 rfl (by decide) w_364 ?_
          refine sr_idiv (pc' := 109) dX9_way_108 rfl (by decide) ?_
          refine sr_goto (pc' := 122) dX9_way_109 rfl ?_
          exact sr_iretI dX9_way_122 rfl rfl
        · refine sr_iload (pc' := 114) dX9_way_112 rfl rfl ?_
          refine sr_sipush (pc' := 117) dX9_way_114 rfl (by decide) (by decide) ?_
          refine sr_idiv (pc' := 118) dX9_way_117 rfl (by decide) ?_
          refine sr_sipush (pc' := 121) dX9_way_118 rfl (by decide) (by decide) ?_
          refine sr_irem (pc' := 122) dX9_way_121 rfl (by decide) ?_
          exact sr_iretI dX9_way_122 rfl rfl
def mod_way   (x1 x2 x3 : Int) (μ : Mem) : Option (Int × Mem) := (mod_isCart μ x1).bind fun u1 => if u1 = 0 then (some ((-1), μ)) else ((mod_in μ x2 0 1).bind fun u2 => if u2 = 0 then (some ((-1), μ)) else ((mod_in μ x3 0 2).bind fun u3 => if u3 = 0 then (if 10 ≤ x3 then (mod_way_38 x1 x2 x3 μ) else (some ((-1), μ))) else (mod_way_38 x1 x2 x3 μ)))
theorem mod_way_sp {l : Launch} {G : Nv}   (x1 x2 x3 : Int) (μ : Mem) : SP l G S88 mX9_way [vR 61, vI x1, vI x2, vI x3] μ (mod_way x1 x2 x3 μ) jIM := by
  refine sp_go (lv := [some (vR 61), some (vI x1), some (vI x2), some (vI x3), none, none, none, none, none, none, none]) pn_X9 (Nat.le_of_ble_eq_true rfl) rfl ?_
  unfold mod_way
  refine sr_aload_n (i := 0) (pc' := 1) dX9_way_0 rfl rfl rfl ?_
  refine sr_iload_n (i := 1) (pc' := 2) dX9_way_1 rfl rfl rfl ?_
  refine sr_callV1_I (pc' := 5) (mod_isCart_sp x1 μ) dX9_way_2 rfl mg_X9_isCart mi_X9_isCart (Or.inl ⟨9, _, TX9, 40, s88_61, rfl⟩) ⟨Nat.le_of_ble_eq_true rfl, Nat.le_of_ble_eq_true rfl⟩ w_345 (Nat.le_of_ble_eq_true rfl) (fun u1 hu1 hcu1 hzu1 => ?_)
  refine sr_if_eq (pc' := 8) (tgt := 36) dX9_way_5 rfl rfl (fun c5 => ?_) (fun c5 => ?_)
  · refine sr_iconst (pc' := 37) dX9_way_36 rfl (by decide) ?_
    exact sr_iretI dX9_way_37 rfl rfl
  · refine sr_iload_n (i := 2) (pc' := 9) dX9_way_8 rfl rfl rfl ?_
    refine sr_i2l (pc' := 10) dX9_way_9 rfl ?_
    refine sr_lconst (x := 0) (pc' := 11) dX9_way_10 rfl (by decide) rfl ?_
    refine sr_lconst (x := 1) (pc' := 12) dX9_way_11 rfl (by decide) rfl ?_
    refine sr_callS3_I (pc' := 15) (mod_in_sp x2 0 1 μ) dX9_way_12 rfl mg_X9_in ms_X9_in ⟨Nat.le_of_ble_eq_true rfl, Nat.le_of_ble_eq_true rfl⟩ w_336 (Nat.le_of_ble_eq_true rfl) (fun u2 hu2 hcu2 hzu2 => ?_)
    refine sr_if_eq (pc' := 18) (tgt := 36) dX9_way_15 rfl rfl (fun c15 => ?_) (fun c15 => ?_)
    · refine sr_iconst (pc' := 37) dX9_way_36 rfl (by decide) ?_
      exact sr_iretI dX9_way_37 rfl rfl
    · refine sr_iload_n (i := 3) (pc' := 19) dX9_way_18 rfl rfl rfl ?_
      refine sr_i2l (pc' := 20) dX9_way_19 rfl ?_
      refine sr_lconst (x := 0) (pc' := 21) dX9_way_20 rfl (by decide) rfl ?_
      refine sr_ldc2 (x := 2) (pc' := 24) dX9_way_21 rfl (by decide) w_354 ?_
      refine sr_callS3_I (pc' := 27) (mod_in_sp x3 0 2 μ) dX9_way_24 rfl mg_X9_in ms_X9_in ⟨Nat.le_of_ble_eq_true rfl, Nat.le_of_ble_eq_true rfl⟩ w_336 (Nat.le_of_ble_eq_true rfl) (fun u3 hu3 hcu3 hzu3 => ?_)
      refine sr_if_ne (pc' := 30) (tgt := 38) dX9_way_27 rfl rfl (fun c27 => ?_) (fun c27 => ?_)
      · refine sr_iload_n (i := 3) (pc' := 31) dX9_way_30 rfl rfl rfl ?_
        refine sr_bipush (pc' := 33) dX9_way_31 rfl (by decide) (by decide) ?_
        refine sr_icmp_ge (pc' := 36) (tgt := 38) dX9_way_33 rfl rfl (fun c33 => ?_) (fun c33 => ?_)
        · exact mod_way_38_s x1 x2 x3 μ
        · refine sr_iconst (pc' := 37) dX9_way_36 rfl (by decide) ?_
          exact sr_iretI dX9_way_37 rfl rfl
      · exact mod_way_38_s x1 x2 x3 μ
