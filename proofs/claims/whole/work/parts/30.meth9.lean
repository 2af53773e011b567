def mod_goesTo (μ : Mem)  (x1 x2 : Int) : Option (Int) := (mod_of μ x1 4).bind fun u1 => (mod_of μ x1 5).bind fun u2 => (mod_of μ x1 0).bind fun u3 => if u3 = 2 then (some 0) else (if u2 ≤ u1 then ((mod_in μ x2 u2 (wI (u1 - 1))).bind fun u4 => if u4 = 0 then (some 0) else (some 1)) else ((mod_in μ x2 (wI (u1 + 1)) u2).bind fun u5 => if u5 = 0 then (some 0) else (some 1)))
theorem mod_goesTo_sp {l : Launch} {G : Nv}   (x1 x2 : Int) (μ : Mem) : SP l G S88 mX9_goesTo [vR 61, vI x1, vI x2] μ (mod_goesTo μ x1 x2) (jI μ) := by
  refine sp_go (lv := [some (vR 61), some (vI x1), some (vI x2), none, none]) pn_X9 (Nat.le_of_ble_eq_true rfl) rfl ?_
  unfold mod_goesTo
  refine sr_aload_n (i := 0) (pc' := 1) dX9_goesTo_0 rfl rfl rfl ?_
  refine sr_iload_n (i := 1) (pc' := 2) dX9_goesTo_1 rfl rfl rfl ?_
  refine sr_iconst (pc' := 3) dX9_goesTo_2 rfl (by decide) ?_
  refine sr_callV2_I (pc' := 6) (mod_of_sp x1 4 μ) dX9_goesTo_3 rfl mg_X9_of mi_X9_of (Or.inl ⟨9, _, TX9, 40, s88_61, rfl⟩) ⟨Nat.le_of_ble_eq_true rfl, Nat.le_of_ble_eq_true rfl⟩ w_314 (Nat.le_of_ble_eq_true rfl) (fun u1 hu1 hcu1 hzu1 => ?_)
  refine sr_istore_n (i := 3) (lv' := [some (vR 61), some (vI x1), some (vI x2), some (vI u1), none]) (pc' := 7) dX9_goesTo_6 rfl rfl (by decide) rfl ?_
  refine sr_aload_n (i := 0) (pc' := 8) dX9_goesTo_7 rfl rfl rfl ?_
  refine sr_iload_n (i := 1) (pc' := 9) dX9_goesTo_8 rfl rfl rfl ?_
  refine sr_iconst (pc' := 10) dX9_goesTo_9 rfl (by decide) ?_
  refine sr_callV2_I (pc' := 13) (mod_of_sp x1 5 μ) dX9_goesTo_10 rfl mg_X9_of mi_X9_of (Or.inl ⟨9, _, TX9, 40, s88_61, rfl⟩) ⟨Nat.le_of_ble_eq_true rfl, Nat.le_of_ble_eq_true rfl⟩ w_314 (Nat.le_of_ble_eq_true rfl) (fun u2 hu2 hcu2 hzu2 => ?_)
  refine sr_istore (lv' := [some (vR 61), some (vI x1), some (vI x2), some (vI u1), some (vI u2)]) (pc' := 15) dX9_goesTo_13 rfl (by decide) rfl ?_
  refine sr_aload_n (i := 0) (pc' := 16) dX9_goesTo_15 rfl rfl rfl ?_
  refine sr_iload_n (i := 1) (pc' := 17) dX9_goesTo_16 rfl rfl rfl ?_
  refine sr_iconst (pc' := 18) dX9_goesTo_17 rfl (by decide) ?_
  refine sr_callV2_I (pc' := 21) (mod_of_sp x1 0 μ) dX9_goesTo_18 rfl mg_X9_of mi_X9_of (Or.inl ⟨9, _, TX9, 40, s88_61, rfl⟩) ⟨Nat.le_of_ble_eq_true rfl, Nat.le_of_ble_eq_true rfl⟩ w_314 (Nat.le_of_ble_eq_true rfl) (fun u3 hu3 hcu3 hzu3 => ?_)
  refine sr_iconst (pc' := 22) dX9_goesTo_21 rfl (by decide) ?_
  refine sr_icmp_eq (pc' := 25) (tgt := 68) dX9_goesTo_22 rfl rfl (fun c22 => ?_) (fun c22 => ?_)
  · refine sr_iconst (pc' := 69) dX9_goesTo_68 rfl (by decide) ?_
    exact sr_iretZ dX9_goesTo_69 rfl (Or.inl rfl) rfl
  · refine sr_iload_n (i := 3) (pc' := 26) dX9_goesTo_25 rfl rfl rfl ?_
    refine sr_iload (pc' := 28) dX9_goesTo_26 rfl rfl ?_
    refine sr_icmp_ge (pc' := 31) (tgt := 49) dX9_goesTo_28 rfl rfl (fun c28 => ?_) (fun c28 => ?_)
    · refine sr_iload_n (i := 2) (pc' := 50) dX9_goesTo_49 rfl rfl rfl ?_
      refine sr_i2l (pc' := 51) dX9_goesTo_50 rfl ?_
      refine sr_iload (pc' := 53) dX9_goesTo_51 rfl rfl ?_
      refine sr_i2l (pc' := 54) dX9_goesTo_53 rfl ?_
      refine sr_iload_n (i := 3) (pc' := 55) dX9_goesTo_54 rfl rfl rfl ?_
      refine sr_iconst (pc' := 56) dX9_goesTo_55 rfl (by decide) ?_
      refine sr_isub (pc' := 57) dX9_goesTo_56 rfl ?_
      refine sr_i2l (pc' := 58) dX9_goesTo_57 rfl ?_
      refine sr_callS3_I (pc' := 61) (mod_in_sp x2 u2 (wI (u1 - 1)) μ) dX9_goesTo_58 rfl mg_X9_in ms_X9_in ⟨Nat.le_of_ble_eq_true rfl, Nat.le_of_ble_eq_true rfl⟩ w_336 (Nat.le_of_ble_eq_true rfl) (fun u4 hu4 hcu4 hzu4 => ?_)
      refine sr_if_eq (pc' := 64) (tgt := 68) dX9_goesTo_61 rfl rfl (fun c61 => ?_) (fun c61 => ?_)
      · refine sr_iconst (pc' := 69) dX9_goesTo_68 rfl (by decide) ?_
        exact sr_iretZ dX9_goesTo_69 rfl (Or.inl rfl) rfl
      · refine sr_iconst (pc' := 65) dX9_goesTo_64 rfl (by decide) ?_
        refine sr_goto (pc' := 69) dX9_goesTo_65 rfl ?_
        exact sr_iretZ dX9_goesTo_69 rfl (Or.inr rfl) rfl
    · refine sr_iload_n (i := 2) (pc' := 32) dX9_goesTo_31 rfl rfl rfl ?_
      refine sr_i2l (pc' := 33) dX9_goesTo_32 rfl ?_
      refine sr_iload_n (i := 3) (pc' := 34) dX9_goesTo_33 rfl rfl rfl ?_
      refine sr_iconst (pc' := 35) dX9_goesTo_34 rfl (by decide) ?_
      refine sr_iadd (pc' := 36) dX9_goesTo_35 rfl ?_
      refine sr_i2l (pc' := 37) dX9_goesTo_36 rfl ?_
      refine sr_iload (pc' := 39) dX9_goesTo_37 rfl rfl ?_
      refine sr_i2l (pc' := 40) dX9_goesTo_39 rfl ?_
      refine sr_callS3_I (pc' := 43) (mod_in_sp x2 (wI (u1 + 1)) u2 μ) dX9_goesTo_40 rfl mg_X9_in ms_X9_in ⟨Nat.le_of_ble_eq_true rfl, Nat.le_of_ble_eq_true rfl⟩ w_336 (Nat.le_of_ble_eq_true rfl) (fun u5 hu5 hcu5 hzu5 => ?_)
      refine sr_if_eq (pc' := 46) (tgt := 68) dX9_goesTo_43 rfl rfl (fun c43 => ?_) (fun c43 => ?_)
      · refine sr_iconst (pc' := 69) dX9_goesTo_68 rfl (by decide) ?_
        exact sr_iretZ dX9_goesTo_69 rfl (Or.inl rfl) rfl
      · refine sr_goto (pc' := 64) dX9_goesTo_46 rfl ?_
        refine sr_iconst (pc' := 65) dX9_goesTo_64 rfl (by decide) ?_
        refine sr_goto (pc' := 69) dX9_goesTo_65 rfl ?_
        exact sr_iretZ dX9_goesTo_69 rfl (Or.inr rfl) rfl
def mod_is (μ : Mem)  (x1 x2 x3 x4 : Int) : Option (Int) := if (wI ((μ 61 19) - (μ 61 20))) = x1 then ((mod_look μ (μ 61 20)).bind fun u1 => if u1 = x2 then ((mod_look μ (wI ((μ 61 20) + 1))).bind fun u2 => if u2 = x3 then ((mod_look μ (wI ((μ 61 20) + 2))).bind fun u3 => if u3 = x4 then (some 1) else (some 0)) else (some 0)) else (some 0)) else (some 0)
theorem mod_is_sp {l : Launch} {G : Nv}   (x1 x2 x3 x4 : Int) (μ : Mem) : SP l G S88 mX9_is [vR 61, vI x1, vI x2, vI x3, vI x4] μ (mod_is μ x1 x2 x3 x4) (jI μ) := by
  refine sp_go (lv := [some (vR 61), some (vI x1), some (vI x2), some (vI x3), some (vI x4)]) pn_X9 (Nat.le_of_ble_eq_true rfl) rfl ?_
  unfold mod_is
  refine sr_aload_n (i := 0) (pc' := 1) dX9_is_0 rfl rfl rfl ?_
  refine sr_getI (k := 19) (pc' := 4) cls_X9 dX9_is_1 rfl s88_61 rfl (by decide) w_379 ?_
  refine sr_aload_n (i := 0) (pc' := 5) dX9_is_4 rfl rfl rfl ?_
  refine sr_getI (k := 20) (pc' := 8) cls_X9 dX9_is_5 rfl s88_61 rfl (by decide) w_358 ?_
  refine sr_isub (pc' := 9) dX9_is_8 rfl ?_
  refine sr_iload_n (i := 1) (pc' := 10) dX9_is_9 rfl rfl rfl ?_
  refine sr_icmp_ne (pc' := 13) (tgt := 58) dX9_is_10 rfl rfl (fun c10 => ?_) (fun c10 => ?_)
  · refine sr_aload_n (i := 0) (pc' := 14) dX9_is_13 rfl rfl rfl ?_
    refine sr_aload_n (i := 0) (pc' := 15) dX9_is_14 rfl rfl rfl ?_
    refine sr_getI (k := 20) (pc' := 18) cls_X9 dX9_is_15 rfl s88_61 rfl (by decide) w_358 ?_
    refine sr_callV1_I (pc' := 21) (mod_look_sp (μ 61 20) μ) dX9_is_18 rfl mg_X9_look mi_X9_look (Or.inl ⟨9, _, TX9, 40, s88_61, rfl⟩) ⟨Nat.le_of_ble_eq_true rfl, Nat.le_of_ble_eq_true rfl⟩ w_359 (Nat.le_of_ble_eq_true rfl) (fun u1 hu1 hcu1 hzu1 => ?_)
    refine sr_iload_n (i := 2) (pc' := 22) dX9_is_21 rfl rfl rfl ?_
    refine sr_icmp_ne (pc' := 25) (tgt := 58) dX9_is_22 rfl rfl (fun c22 => ?_) (fun c22 => ?_)
    · refine sr_aload_n (i := 0) (pc' := 26) dX9_is_25 rfl rfl rfl ?_
      refine sr_aload_n (i := 0) (pc' := 27) dX9_is_26 rfl rfl rfl ?_
      refine sr_getI (k := 20) (pc' := 30) cls_X9 dX9_is_27 rfl s88_61 rfl (by decide) w_358 ?_
      refine sr_iconst (pc' := 31) dX9_is_30 rfl (by decide) ?_
      refine sr_iadd (pc' := 32) dX9_is_31 rfl ?_
      refine sr_callV1_I (pc' := 35) (mod_look_sp (wI ((μ 61 20) + 1)) μ) dX9_is_32 rfl mg_X9_look mi_X9_look (Or.inl ⟨9, _, TX9, 40, s88_61, rfl⟩) ⟨Nat.le_of_ble_eq_true rfl, Nat.le_of_ble_eq_true rfl⟩ w_359 (Nat.le_of_ble_eq_true rfl) (fun u2 hu2 hcu2 hzu2 => ?_)
      refine sr_iload_n (i := 3) (pc' := 36) dX9_is_35 rfl rfl rfl ?_
      refine sr_icmp_ne (pc' := 39) (tgt := 58) dX9_is_36 rfl rfl (fun c36 => ?_) (fun c36 => ?_)
      · refine sr_aload_n (i := 0) (pc' := 40) dX9_is_39 rfl rfl rfl ?_
        refine sr_aload_n (i := 0) (pc' := 41) dX9_is_40 rfl rfl rfl ?_
        refine sr_getI (k := 20) (pc' := 44) cls_X9 dX9_is_41 rfl s88_61 rfl (by decide) w_358 ?_
        refine sr_iconst (pc' := 45) dX9_is_44 rfl (by decide) ?_
        refine sr_iadd (pc' := 46) dX9_is_45 rfl ?_
        refine sr_callV1_I (pc' := 49) (mod_look_sp (wI ((μ 61 20) + 2)) μ) dX9_is_46 rfl mg_X9_look mi_X9_look (Or.inl ⟨9, _, TX9, 40, s88_61, rfl⟩) ⟨Nat.le_of_ble_eq_true rfl, Nat.le_of_ble_eq_true rfl⟩ w_359 (Nat.le_of_ble_eq_true rfl) (fun u3 hu3 hcu3 hzu3 => ?_)
        refine sr_iload (pc' := 51) dX9_is_49 rfl rfl ?_
        refine sr_icmp_ne (pc' := 54) (tgt := 58) dX9_is_51 rfl rfl (fun c51 => ?_) (fun c51 => ?_)
        · refine sr_iconst (pc' := 55) dX9_is_54 rfl (by decide) ?_
          refine sr_goto (pc' := 59) dX9_is_55 rfl ?_
          exact sr_iretZ dX9_is_59 rfl (Or.inr rfl) rfl
        · refine sr_iconst (pc' := 59) dX9_is_58 rfl (by decide) ?_
          exact sr_iretZ dX9_is_59 rfl (Or.inl rfl) rfl
      · refine sr_iconst (pc' := 59) dX9_is_58 rfl (by decide) ?_
        exact sr_iretZ dX9_is_59 rfl (Or.inl rfl) rfl
    · refine sr_iconst (pc' := 59) dX9_is_58 rfl (by decide) ?_
      exact sr_iretZ dX9_is_59 rfl (Or.inl rfl) rfl
  · refine sr_iconst (pc' := 59) dX9_is_58 rfl (by decide) ?_
    exact sr_iretZ dX9_is_59 rfl (Or.inl rfl) rfl
def mod_lastTo_39 (μ : Mem) (k5 : Int → Int → Int → Option (Int)) (x1 x3 s0 : Int) : Option (Int) := k5 x1 s0 (wI (x3 + 1))
theorem mod_lastTo_39_s {l : Launch} {G : Nv}   (μ : Mem) {k5 : Int → Int → Int → Option (Int)} (hk5 : ∀ (x1 x2 x3 : Int) , SR l G S88 mX9_lastTo (k5 x1 x2 x3) (jI μ) 5 [some (vR 61), some (vI x1), some (vI x2), some (vI x3)] [] μ) : ∀ (x1 x3 s0 : Int), SR l G S88 mX9_lastTo (mod_lastTo_39 μ k5 x1 x3 s0) (jI μ) 39 [some (vR 61), some (vI x1), none, some (vI x3)] [vI s0] μ := by
  intro x1 x3 s0
  unfold mod_lastTo_39
  refine sr_istore_n (i := 2) (lv' := [some (vR 61), some (vI x1), some (vI s0), some (vI x3)]) (pc' := 40) dX9_lastTo_39 rfl rfl (by decide) rfl ?_
  refine sr_iinc (lv' := [some (vR 61), some (vI x1), some (vI s0), some (vI (wI (x3 + 1)))]) (pc' := 43) dX9_lastTo_40 rfl (by decide) rfl rfl ?_
  refine sr_goto (pc' := 5) dX9_lastTo_43 rfl ?_
  exact hk5 x1 s0 (wI (x3 + 1))
def mod_lastTo_5 (μ : Mem)  : Nat → Int → Int → Int → Option (Int)
  | 0, _, _, _ => none
  | n + 1, x1, x2, x3 => if (μ 62 0) ≤ x3 then (some x2) else ((ld μ 80 5 x3).bind fun v1 => (mod_goesTo μ v1 x1).bind fun u2 => if u2 = 0 then (mod_lastTo_39 μ (mod_lastTo_5 μ n) x1 x3 x2) else ((ld μ 80 5 x3).bind fun v3 => mod_lastTo_39 μ (mod_lastTo_5 μ n) x1 x3 v3))
theorem mod_lastTo_5_s {l : Launch} {G : Nv}   (μ : Mem)   : ∀ (n : Nat) (x1 x2 x3 : Int), SR l G S88 mX9_lastTo (mod_lastTo_5 μ n x1 x2 x3) (jI μ) 5 [some (vR 61), some (vI x1), some (vI x2), some (vI x3)] [] μ := by
  intro n
  induction n with
  | zero => intro x1 x2 x3; exact sr_none
  | succ n ih =>
    intro x1 x2 x3
    rw [mod_lastTo_5.eq_2]
    refine sr_iload_n (i := 3) (pc' := 6) dX9_lastTo_5 rfl rfl rfl ?_
    refine sr_aload_n (i := 0) (pc' := 7) dX9_lastTo_6 rfl rfl rfl ?_
    refine sr_getR (k := 0) (b := 62) (pc' := 10) cls_X9 dX9_lastTo_7 rfl s88_61 rfl (by decide) w_311 ?_
    refine sr_iconst (pc' := 11) dX9_lastTo_10 rfl (by decide) ?_
    refine sr_ialdc (j := 0) (pc' := 12) dX9_lastTo_11 rfl s88_62 (by decide) (by decide) (by decide) rfl ?_
    refine sr_icmp_ge (pc' := 15) (tgt := 46) dX9_lastTo_12 rfl rfl (fun c12 => ?_) (fun c12 => ?_)
    · refine sr_iload_n (i := 2) (pc' := 47) dX9_lastTo_46 rfl rfl rfl ?_
      exact sr_iretI dX9_lastTo_47 rfl rfl
    · refine sr_aload_n (i := 0) (pc' := 16) dX9_lastTo_15 rfl rfl rfl ?_
      refine sr_aload_n (i := 0) (pc' := 17) dX9_lastTo_16 rfl rfl rfl ?_
      refine sr_getR (k := 30) (b := 80) (pc' := 20) cls_X9 dX9_lastTo_17 rfl s88_61 rfl (by decide) w_324 ?_
      refine sr_iload_n (i := 3) (pc' := 21) dX9_lastTo_20 rfl rfl rfl ?_
      refine sr_iald (pc' := 22) dX9_lastTo_21 rfl s88_80 (by decide) (fun v1 hv1 hv1a hv1b => ?_)
      refine sr_iload_n (i := 1) (pc' := 23) dX9_lastTo_22 rfl rfl rfl ?_
      refine sr_callV2_I (pc' := 26) (mod_goesTo_sp v1 x1 μ) dX9_lastTo_23 rfl mg_X9_goesTo mi_X9_goesTo (Or.inl ⟨9, _, TX9, 40, s88_61, rfl⟩) ⟨Nat.le_of_ble_eq_true rfl, Nat.le_of_ble_eq_true rfl⟩ w_380 (Nat.le_of_ble_eq_true rfl) (fun u2 hu2 hcu2 hzu2 => ?_)
      refine sr_if_eq (pc' := 29) (tgt := 38) dX9_lastTo_26 rfl rfl (fun c26 => ?_) (fun c26 => ?_)
      · refine sr_iload_n (i := 2) (pc' := 39) dX9_lastTo_38 rfl rfl rfl ?_
        refine sr_fgt (fgt_s (fgt_s (fgt_n (fgt_s fgt_nil)))) ?_
        exact mod_lastTo_39_s μ ih x1 x3 x2
      · refine sr_aload_n (i := 0) (pc' := 30) dX9_lastTo_29 rfl rfl rfl ?_
        refine sr_getR (k := 30) (b := 80) (pc' := 33) cls_X9 dX9_lastTo_30 rfl s88_61 rfl (by decide) w_324 ?_
        refine sr_iload_n (i := 3) (pc' := 34) dX9_lastTo_33 rfl rfl rfl ?_
        refine sr_iald (pc' := 35) dX9_lastTo_34 rfl s88_80 (by decide) (fun v3 hv3 hv3a hv3b => ?_)
        refine sr_goto (pc' := 39) dX9_lastTo_35 rfl ?_
        refine sr_fgt (fgt_s (fgt_s (fgt_n (fgt_s fgt_nil)))) ?_
        exact mod_lastTo_39_s μ ih x1 x3 v3
def mod_lastTo (μ : Mem)  (x1 : Int) : Option (Int) := mod_lastTo_5 μ BIG x1 (-4) 0
theorem mod_lastTo_sp {l : Launch} {G : Nv}   (x1 : Int) (μ : Mem) : SP l G S88 mX9_lastTo [vR 61, vI x1] μ (mod_lastTo μ x1) (jI μ) := by
  refine sp_go (lv := [some (vR 61), some (vI x1), none, none]) pn_X9 (Nat.le_of_ble_eq_true rfl) rfl ?_
  unfold mod_lastTo
  refine sr_bipush (pc' := 2) dX9_lastTo_0 rfl (by decide) (by decide) ?_
  refine sr_istore_n (i := 2) (lv' := [some (vR 61), some (vI x1), some (vI (-4)), none]) (pc' := 3) dX9_lastTo_2 rfl rfl (by decide) rfl ?_
  refine sr_iconst (pc' := 4) dX9_lastTo_3 rfl (by decide) ?_
  refine sr_istore_n (i := 3) (lv' := [some (vR 61), some (vI x1), some (vI (-4)), some (vI 0)]) (pc' := 5) dX9_lastTo_4 rfl rfl (by decide) rfl ?_
  exact mod_lastTo_5_s μ BIG x1 (-4) 0
def mod_isFit_71 (μ : Mem) (k4 : Int → Int → Option (Int)) (x2 s0 : Int) : Option (Int) := k4 s0 (wI (x2 + 1))
theorem mod_isFit_71_s {l : Launch} {G : Nv}   (μ : Mem) {k4 : Int → Int → Option (Int)} (hk4 : ∀ (x1 x2 : Int) , SR l G S88 mX9_isFit (k4 x1 x2) (jI μ) 4 [some (vR 61), some (vI x1), some (vI x2), none] [] μ) : ∀ (x2 s0 : Int), SR l G S88 mX9_isFit (mod_isFit_71 μ k4 x2 s0) (jI μ) 71 [some (vR 61), none, some (vI x2), none] [vI s0] μ := by
  intro x2 s0
  unfold mod_isFit_71
  refine sr_istore_n (i := 1) (lv' := [some (vR 61), some (vI s0), some (vI x2), none]) (pc' := 72) dX9_isFit_71 rfl rfl (by decide) rfl ?_
  refine sr_iinc (lv' := [some (vR 61), some (vI s0), some (vI (wI (x2 + 1))), none]) (pc' := 75) dX9_isFit_72 rfl (by decide) rfl rfl ?_
  refine sr_goto (pc' := 4) dX9_isFit_75 rfl ?_
  exact hk4 s0 (wI (x2 + 1))
def mod_isFit_4 (μ : Mem)  : Nat → Int → Int → Option (Int)
  | 0, _, _ => none
  | n + 1, x1, x2 => if (μ 62 168) ≤ x2 then (some (zN x1)) else ((ld μ 62 555 (wI (169 + (wI (2 * x2))))).bind fun v1 => (mod_lastTo μ v1).bind fun u2 => if x1 = 0 then (mod_isFit_71 μ (mod_isFit_4 μ n) x2 0) else (if u2 = (-4) then (mod_isFit_71 μ (mod_isFit_4 μ n) x2 0) else ((mod_of μ u2 1).bind fun u3 => (ld μ 62 555 (wI ((wI (169 + (wI (2 * x2)))) + 1))).bind fun v4 => if u3 = v4 then (mod_isFit_71 μ (mod_isFit_4 μ n) x2 1) else (mod_isFit_71 μ (mod_isFit_4 μ n) x2 0))))
theorem mod_isFit_4_s {l : Launch} {G : Nv}   (μ : Mem)   : ∀ (n : Nat) (x1 x2 : Int), SR l G S88 mX9_isFit (mod_isFit_4 μ n x1 x2) (jI μ) 4 [some (vR 61), some (vI x1), some (vI x2), none] [] μ := by
  intro n
  induction n with
  | zero => intro x1 x2; exact sr_none
  | succ n ih =>
    intro x1 x2
    rw [mod_isFit_4.eq_2]
    refine sr_iload_n (i := 2) (pc' := 5) dX9_isFit_4 rfl rfl rfl ?_
    refine sr_aload_n (i := 0) (pc' := 6) dX9_isFit_5 rfl rfl rfl ?_
    refine sr_getR (k := 0) (b := 62) (pc' := 9) cls_X9 dX9_isFit_6 rfl s88_61 rfl (by decide) w_311 ?_
    refine sr_sipush (pc' := 12) dX9_isFit_9 rfl (by decide) (by decide) ?_
    refine sr_ialdc (j := 168) (pc' := 13) dX9_isFit_12 rfl s88_62 (by decide) (by decide) (by decide) rfl ?_
    refine sr_icmp_ge (pc' := 16) (tgt := 78) dX9_isFit_13 rfl rfl (fun c13 => ?_) (fun c13 => ?_)
    · refine sr_iload_n (i := 1) (pc' := 79) dX9_isFit_78 rfl rfl rfl ?_
      exact sr_iretN dX9_isFit_79 rfl rfl
    · refine sr_aload_n (i := 0) (pc' := 17) dX9_isFit_16 rfl rfl rfl ?_
      refine sr_aload_n (i := 0) (pc' := 18) dX9_isFit_17 rfl rfl rfl ?_
      refine sr_getR (k := 0) (b := 62) (pc' := 21) cls_X9 dX9_isFit_18 rfl s88_61 rfl (by decide) w_311 ?_
      refine sr_sipush (pc' := 24) dX9_isFit_21 rfl (by decide) (by decide) ?_
      refine sr_iconst (pc' := 25) dX9_isFit_24 rfl (by decide) ?_
      refine sr_iload_n (i := 2) (pc' := 26) dX9_isFit_25 rfl rfl rfl ?_
      refine sr_imul (pc' := 27) dX9_isFit_26 rfl ?_
      refine sr_iadd (pc' := 28) dX9_isFit_27 rfl ?_
      refine sr_iald (pc' := 29) dX9_isFit_28 rfl s88_62 (by decide) (fun v1 hv1 hv1a hv1b => ?_)
      refine sr_callV1_I (pc' := 32) (mod_lastTo_sp v1 μ) dX9_isFit_29 rfl mg_X9_lastTo mi_X9_lastTo (Or.inl ⟨9, _, TX9, 40, s88_61, rfl⟩) ⟨Nat.le_of_ble_eq_true rfl, Nat.le_of_ble_eq_true rfl⟩ w_381 (Nat.le_of_ble_eq_true rfl) (fun u2 hu2 hcu2 hzu2 => ?_)
      refine sr_istore_n (i := 3) (lv' := [some (vR 61), some (vI x1), some (vI x2), some (vI u2)]) (pc' := 33) dX9_isFit_32 rfl rfl (by decide) rfl ?_
      refine sr_iload_n (i := 1) (pc' := 34) dX9_isFit_33 rfl rfl rfl ?_
      refine sr_if_eq (pc' := 37) (tgt := 70) dX9_isFit_34 rfl rfl (fun c34 => ?_) (fun c34 => ?_)
      · refine sr_iconst (pc' := 71) dX9_isFit_70 rfl (by decide) ?_
        refine sr_fgt (fgt_s (fgt_n (fgt_s (fgt_n fgt_nil)))) ?_
        exact mod_isFit_71_s μ ih x2 0
      · refine sr_iload_n (i := 3) (pc' := 38) dX9_isFit_37 rfl rfl rfl ?_
        refine sr_bipush (pc' := 40) dX9_isFit_38 rfl (by decide) (by decide) ?_
        refine sr_icmp_eq (pc' := 43) (tgt := 70) dX9_isFit_40 rfl rfl (fun c40 => ?_) (fun c40 => ?_)
        · refine sr_iconst (pc' := 71) dX9_isFit_70 rfl (by decide) ?_
          refine sr_fgt (fgt_s (fgt_n (fgt_s (fgt_n fgt_nil)))) ?_
          exact mod_isFit_71_s μ ih x2 0
        · refine sr_aload_n (i := 0) (pc' := 44) dX9_isFit_43 rfl rfl rfl ?_
          refine sr_iload_n (i := 3) (pc' := 45) dX9_isFit_44 rfl rfl rfl ?_
          refine sr_iconst (pc' := 46) dX9_isFit_45 rfl (by decide) ?_
          refine sr_callV2_I (pc' := 49) (mod_of_sp u2 1 μ) dX9_isFit_46 rfl mg_X9_of mi_X9_of (Or.inl ⟨9, _, TX9, 40, s88_61, rfl⟩) ⟨Nat.le_of_ble_eq_true rfl, Nat.le_of_ble_eq_true rfl⟩ w_314 (Nat.le_of_ble_eq_true rfl) (fun u3 hu3 hcu3 hzu3 => ?_)
          refine sr_aload_n (i := 0) (pc' := 50) dX9_isFit_49 rfl rfl rfl ?_
          refine sr_getR (k := 0) (b := 62) (pc' := 53) cls_X9 dX9_isFit_50 rfl s88_61 rfl (by decide) w_311 ?_
          refine sr_sipush (pc' := 56) dX9_isFit_53 rfl (by decide) (by decide) ?_
          refine sr_iconst (pc' := 57) dX9_isFit_56 rfl (by decide) ?_
          refine sr_iload_n (i := 2) (pc' := 58) dX9_isFit_57 rfl rfl rfl ?_
          refine sr_imul (pc' := 59) dX9_isFit_58 rfl ?_
          refine sr_iadd (pc' := 60) dX9_isFit_59 rfl ?_
          refine sr_iconst (pc' := 61) dX9_isFit_60 rfl (by decide) ?_
          refine sr_iadd (pc' := 62) dX9_isFit_61 rfl ?_
          refine sr_iald (pc' := 63) dX9_isFit_62 rfl s88_62 (by decide) (fun v4 hv4 hv4a hv4b => ?_)
          refine sr_icmp_ne (pc' := 66) (tgt := 70) dX9_isFit_63 rfl rfl (fun c63 => ?_) (fun c63 => ?_)
          · refine sr_iconst (pc' := 67) dX9_isFit_66 rfl (by decide) ?_
            refine sr_goto (pc' := 71) dX9_isFit_67 rfl ?_
            refine sr_fgt (fgt_s (fgt_n (fgt_s (fgt_n fgt_nil)))) ?_
            exact mod_isFit_71_s μ ih x2 1
          · refine sr_iconst (pc' := 71) dX9_isFit_70 rfl (by decide) ?_
            refine sr_fgt (fgt_s (fgt_n (fgt_s (fgt_n fgt_nil)))) ?_
            exact mod_isFit_71_s μ ih x2 0
def mod_isFit (μ : Mem)  : Option (Int) := mod_isFit_4 μ BIG 1 0
theorem mod_isFit_sp {l : Launch} {G : Nv}   (μ : Mem) : SP l G S88 mX9_isFit [vR 61] μ (mod_isFit μ) (jI μ) := by
  refine sp_go (lv := [some (vR 61), none, none, none]) pn_X9 (Nat.le_of_ble_eq_true rfl) rfl ?_
  unfold mod_isFit
  refine sr_iconst (pc' := 1) dX9_isFit_0 rfl (by decide) ?_
  refine sr_istore_n (i := 1) (lv' := [some (vR 61), some (vI 1), none, none]) (pc' := 2) dX9_isFit_1 rfl rfl (by decide) rfl ?_
  refine sr_iconst (pc' := 3) dX9_isFit_2 rfl (by decide) ?_
  refine sr_istore_n (i := 2) (lv' := [some (vR 61), some (vI 1), some (vI 0), none]) (pc' := 4) dX9_isFit_3 rfl rfl (by decide) rfl ?_
  exact mod_isFit_4_s μ BIG 1 0
def mod_isSheet (μ : Mem)  (x0 x1 : Int) : Option (Int) := (mod_in μ x0 0 3).bind fun u1 => if u1 = 0 then (some 0) else ((mod_in μ x1 0 2).bind fun u2 => if u2 = 0 then (some 0) else (some 1))
theorem mod_isSheet_sp {l : Launch} {G : Nv} {Sh : Shp}   (x0 x1 : Int) (μ : Mem) : SP l G Sh mX9_isSheet [vI x0, vI x1] μ (mod_isSheet μ x0 x1) (jI μ) := by
  refine sp_go (lv := [some (vI x0), some (vI x1)]) pn_X9 (Nat.le_of_ble_eq_true rfl) rfl ?_
  unfold mod_isSheet
  refine sr_iload_n (i := 0) (pc' := 1) dX9_isSheet_0 rfl rfl rfl ?_
  refine sr_i2l (pc' := 2) dX9_isSheet_1 rfl ?_
  refine sr_lconst (x := 0) (pc' := 3) dX9_isSheet_2 rfl (by decide) rfl ?_
  refine sr_ldc2 (x := 3) (pc' := 6) dX9_isSheet_3 rfl (by decide) w_382 ?_
  refine sr_callS3_I (pc' := 9) (mod_in_sp x0 0 3 μ) dX9_isSheet_6 rfl mg_X9_in ms_X9_in ⟨Nat.le_of_ble_eq_true rfl, Nat.le_of_ble_eq_true rfl⟩ w_336 (Nat.le_of_ble_eq_true rfl) (fun u1 hu1 hcu1 hzu1 => ?_)
  refine sr_if_eq (pc' := 12) (tgt := 28) dX9_isSheet_9 rfl rfl (fun c9 => ?_) (fun c9 => ?_)
  · refine sr_iconst (pc' := 29) dX9_isSheet_28 rfl (by decide) ?_
    exact sr_iretZ dX9_isSheet_29 rfl (Or.inl rfl) rfl
  · refine sr_iload_n (i := 1) (pc' := 13) dX9_isSheet_12 rfl rfl rfl ?_
    refine sr_i2l (pc' := 14) dX9_isSheet_13 rfl ?_
    refine sr_lconst (x := 0) (pc' := 15) dX9_isSheet_14 rfl (by decide) rfl ?_
    refine sr_ldc2 (x := 2) (pc' := 18) dX9_isSheet_15 rfl (by decide) w_354 ?_
    refine sr_callS3_I (pc' := 21) (mod_in_sp x1 0 2 μ) dX9_isSheet_18 rfl mg_X9_in ms_X9_in ⟨Nat.le_of_ble_eq_true rfl, Nat.le_of_ble_eq_true rfl⟩ w_336 (Nat.le_of_ble_eq_true rfl) (fun u2 hu2 hcu2 hzu2 => ?_)
    refine sr_if_eq (pc' := 24) (tgt := 28) dX9_isSheet_21 rfl rfl (fun c21 => ?_) (fun c21 => ?_)
    · refine sr_iconst (pc' := 29) dX9_isSheet_28 rfl (by decide) ?_
      exact sr_iretZ dX9_isSheet_29 rfl (Or.inl rfl) rfl
    · refine sr_iconst (pc' := 25) dX9_isSheet_24 rfl (by decide) ?_
      refine sr_goto (pc' := 29) dX9_isSheet_25 rfl ?_
      exact sr_iretZ dX9_isSheet_29 rfl (Or.inr rfl) rfl
def mod_jam   (x1 : Int) (μ : Mem) : Option (Int × Mem) := (mod_isHour μ x1).bind fun u1 => if u1 = 0 then (some ((-1), μ)) else ((mod_byNumbers μ).bind fun μ2 => (mod_runs x1 μ2).bind fun μ3 => some (μ3 61 31, μ3))
theorem mod_jam_sp {l : Launch} {G : Nv}   (x1 : Int) (μ : Mem) : SP l G S88 mX9_jam [vR 61, vI x1] μ (mod_jam x1 μ) jIM := by
  refine sp_go (lv := [some (vR 61), some (vI x1)]) pn_X9 (Nat.le_of_ble_eq_true rfl) rfl ?_
  unfold mod_jam
  refine sr_iload_n (i := 1) (pc' := 1) dX9_jam_0 rfl rfl rfl ?_
  refine sr_callS1_I (pc' := 4) (mod_isHour_sp x1 μ) dX9_jam_1 rfl mg_X9_isHour ms_X9_isHour ⟨Nat.le_of_ble_eq_true rfl, Nat.le_of_ble_eq_true rfl⟩ w_378 (Nat.le_of_ble_eq_true rfl) (fun u1 hu1 hcu1 hzu1 => ?_)
  refine sr_if_ne (pc' := 7) (tgt := 9) dX9_jam_4 rfl rfl (fun c4 => ?_) (fun c4 => ?_)
  · refine sr_iconst (pc' := 8) dX9_jam_7 rfl (by decide) ?_
    exact sr_iretI dX9_jam_8 rfl rfl
  · refine sr_aload_n (i := 0) (pc' := 10) dX9_jam_9 rfl rfl rfl ?_
    refine sr_callV0_M (pc' := 13) (mod_byNumbers_sp μ) dX9_jam_10 rfl mg_X9_byNumbers mi_X9_byNumbers (Or.inl ⟨9, _, TX9, 40, s88_61, rfl⟩) ⟨Nat.le_of_ble_eq_true rfl, Nat.le_of_ble_eq_true rfl⟩ w_353 (Nat.le_of_ble_eq_true rfl) (fun μ2 hμ2 => ?_)
    refine sr_aload_n (i := 0) (pc' := 14) dX9_jam_13 rfl rfl rfl ?_
    refine sr_iload_n (i := 1) (pc' := 15) dX9_jam_14 rfl rfl rfl ?_
    refine sr_callV1_M (pc' := 18) (mod_runs_sp x1 μ2) dX9_jam_15 rfl mg_X9_runs mi_X9_runs (Or.inl ⟨9, _, TX9, 40, s88_61, rfl⟩) ⟨Nat.le_of_ble_eq_true rfl, Nat.le_of_ble_eq_true rfl⟩ w_328 (Nat.le_of_ble_eq_true rfl) (fun μ3 hμ3 => ?_)
    refine sr_aload_n (i := 0) (pc' := 19) dX9_jam_18 rfl rfl rfl ?_
    refine sr_getI (k := 31) (pc' := 22) cls_X9 dX9_jam_19 rfl s88_61 rfl (by decide) w_320 ?_
    exact sr_iretI dX9_jam_22 rfl rfl
def mod_keep   (x1 : Int) (μ : Mem) : Option (Int × Mem) := (mod_in μ x1 0 1).bind fun u1 => if u1 = 0 then (some ((-1), μ)) else ((ld μ 63 2 x1).bind fun v2 => (mod_flag μ v2).bind fun u3 => (stx μ 63 2 x1 (zN 1)).bind fun μ4 => (mod_copies (wI (185 * (wI (x1 + 1)))) 0 μ4).bind fun μ5 => some (u3, μ5))
theorem mod_keep_sp {l : Launch} {G : Nv}   (x1 : Int) (μ : Mem) : SP l G S88 mX9_keep [vR 61, vI x1] μ (mod_keep x1 μ) jIM := by
  refine sp_go (lv := [some (vR 61), some (vI x1), none]) pn_X9 (Nat.le_of_ble_eq_true rfl) rfl ?_
  unfold mod_keep
  refine sr_iload_n (i := 1) (pc' := 1) dX9_keep_0 rfl rfl rfl ?_
  refine sr_i2l (pc' := 2) dX9_keep_1 rfl ?_
  refine sr_lconst (x := 0) (pc' := 3) dX9_keep_2 rfl (by decide) rfl ?_
  refine sr_lconst (x := 1) (pc' := 4) dX9_keep_3 rfl (by decide) rfl ?_
  refine sr_callS3_I (pc' := 7) (mod_in_sp x1 0 1 μ) dX9_keep_4 rfl mg_X9_in ms_X9_in ⟨Nat.le_of_ble_eq_true rfl, Nat.le_of_ble_eq_true rfl⟩ w_336 (Nat.le_of_ble_eq_true rfl) (fun u1 hu1 hcu1 hzu1 => ?_)
  refine sr_if_ne (pc' := 10) (tgt := 12) dX9_keep_7 rfl rfl (fun c7 => ?_) (fun c7 => ?_)
  · refine sr_iconst (pc' := 11) dX9_keep_10 rfl (by decide) ?_
    exact sr_iretI dX9_keep_11 rfl rfl
  · refine sr_aload_n (i := 0) (pc' := 13) dX9_keep_12 rfl rfl rfl ?_
    refine sr_getR (k := 1) (b := 63) (pc' := 16) cls_X9 dX9_keep_13 rfl s88_61 rfl (by decide) w_337 ?_
    refine sr_iload_n (i := 1) (pc' := 17) dX9_keep_16 rfl rfl rfl ?_
    refine sr_zald (pc' := 18) dX9_keep_17 rfl s88_63 (by decide) (fun v2 hv2 hv2a hv2b => ?_)
    refine sr_callS1_I (pc' := 21) (mod_flag_sp v2 μ) dX9_keep_18 rfl mg_X9_flag ms_X9_flag ⟨Nat.le_of_ble_eq_true rfl, Nat.le_of_ble_eq_true rfl⟩ w_344 (Nat.le_of_ble_eq_true rfl) (fun u3 hu3 hcu3 hzu3 => ?_)
    refine sr_istore_n (i := 2) (lv' := [some (vR 61), some (vI x1), some (vI u3)]) (pc' := 22) dX9_keep_21 rfl rfl (by decide) rfl ?_
    refine sr_aload_n (i := 0) (pc' := 23) dX9_keep_22 rfl rfl rfl ?_
    refine sr_getR (k := 1) (b := 63) (pc' := 26) cls_X9 dX9_keep_23 rfl s88_61 rfl (by decide) w_337 ?_
    refine sr_iload_n (i := 1) (pc' := 27) dX9_keep_26 rfl rfl rfl ?_
    refine sr_iconst (pc' := 28) dX9_keep_27 rfl (by decide) ?_
    refine sr_zast (pc' := 29) dX9_keep_28 rfl s88_63 (by decide) (fun μ4 hμ4 hμ4a hμ4b => ?_)
    refine sr_aload_n (i := 0) (pc' := 30) dX9_keep_29 rfl rfl rfl ?_
    refine sr_sipush (pc' := 33) dX9_keep_30 rfl (by decide) (by decide) ?_
    refine sr_iload_n (i := 1) (pc' := 34) dX9_keep_33 rfl rfl rfl ?_
    refine sr_iconst (pc' := 35) dX9_keep_34 rfl (by decide) ?_
    refine sr_iadd (pc' := 36) dX9_keep_35 rfl ?_
    refine sr_imul (pc' := 37) dX9_keep_36 rfl ?_
    refine sr_iconst (pc' := 38) dX9_keep_37 rfl (by decide) ?_
    refine sr_callV2_M (pc' := 41) (mod_copies_sp (wI (185 * (wI (x1 + 1)))) 0 μ4) dX9_keep_38 rfl mg_X9_copies mi_X9_copies (Or.inl ⟨9, _, TX9, 40, s88_61, rfl⟩) ⟨Nat.le_of_ble_eq_true rfl, Nat.le_of_ble_eq_true rfl⟩ w_338 (Nat.le_of_ble_eq_true rfl) (fun μ5 hμ5 => ?_)
    refine sr_iload_n (i := 2) (pc' := 42) dX9_keep_41 rfl rfl rfl ?_
    exact sr_iretI dX9_keep_42 rfl rfl
def mod_keepDraft_81  (k37 : Int → Mem → Option (Mem)) : Nat → Int → Int → Mem → Option (Mem)
  | 0, _, _, _ => none
  | n + 1, x1, x2, μ => if 3 ≤ x2 then (k37 (wI (x1 + 1)) μ) else ((ld μ 72 63 (wI ((wI (3 * x1)) + x2))).bind fun v1 => (stx μ 67 63 (wI ((wI (3 * x1)) + x2)) v1).bind fun μ2 => mod_keepDraft_81 k37 n x1 (wI (x2 + 1)) μ2)
theorem mod_keepDraft_81_s {l : Launch} {G : Nv}   {k37 : Int → Mem → Option (Mem)} (hk37 : ∀ (x1 : Int) (μ : Mem) , SR l G S88 mX9_keepDraft (k37 x1 μ) jM 37 [some (vR 61), some (vI x1), none] [] μ) : ∀ (n : Nat) (x1 x2 : Int) (μ : Mem), SR l G S88 mX9_keepDraft (mod_keepDraft_81 k37 n x1 x2 μ) jM 81 [some (vR 61), some (vI x1), some (vI x2)] [] μ := by
  intro n
  induction n with
  | zero => intro x1 x2 μ; exact sr_none
  | succ n ih =>
    intro x1 x2 μ
    rw [mod_keepDraft_81.eq_2]
    refine sr_iload_n (i := 2) (pc' := 82) dX9_keepDraft_81 rfl rfl rfl ?_
    refine sr_iconst (pc' := 83) dX9_keepDraft_82 rfl (by decide) ?_
    refine sr_icmp_ge (pc' := 86) (tgt := 112) dX9_keepDraft_83 rfl rfl (fun c83 => ?_) (fun c83 => ?_)
    · refine sr_iinc (lv' := [some (vR 61), some (vI (wI (x1 + 1))), some (vI x2)]) (pc' := 115) dX9_keepDraft_112 rfl (by decide) rfl rfl ?_
      refine sr_goto (pc' := 37) dX9_keepDraft_115 rfl ?_
      refine sr_fgt (fgt_s (fgt_s (fgt_n fgt_nil))) ?_
      exact hk37 (wI (x1 + 1)) μ
    · refine sr_aload_n (i := 0) (pc' := 87) dX9_keepDraft_86 rfl rfl rfl ?_
      refine sr_getR (k := 6) (b := 67) (pc' := 90) cls_X9 dX9_keepDraft_87 rfl s88_61 rfl (by decide) w_321 ?_
      refine sr_iconst (pc' := 91) dX9_keepDraft_90 rfl (by decide) ?_
      refine sr_iload_n (i := 1) (pc' := 92) dX9_keepDraft_91 rfl rfl rfl ?_
      refine sr_imul (pc' := 93) dX9_keepDraft_92 rfl ?_
      refine sr_iload_n (i := 2) (pc' := 94) dX9_keepDraft_93 rfl rfl rfl ?_
      refine sr_iadd (pc' := 95) dX9_keepDraft_94 rfl ?_
      refine sr_aload_n (i := 0) (pc' := 96) dX9_keepDraft_95 rfl rfl rfl ?_
      refine sr_getR (k := 12) (b := 72) (pc' := 99) cls_X9 dX9_keepDraft_96 rfl s88_61 rfl (by decide) w_370 ?_
      refine sr_iconst (pc' := 100) dX9_keepDraft_99 rfl (by decide) ?_
      refine sr_iload_n (i := 1) (pc' := 101) dX9_keepDraft_100 rfl rfl rfl ?_
      refine sr_imul (pc' := 102) dX9_keepDraft_101 rfl ?_
      refine sr_iload_n (i := 2) (pc' := 103) dX9_keepDraft_102 rfl rfl rfl ?_
      refine sr_iadd (pc' := 104) dX9_keepDraft_103 rfl ?_
      refine sr_iald (pc' := 105) dX9_keepDraft_104 rfl s88_72 (by decide) (fun v1 hv1 hv1a hv1b => ?_)
      refine sr_iast (pc' := 106) dX9_keepDraft_105 rfl s88_67 (by decide) (fun μ2 hμ2 hμ2a hμ2b => ?_)
      refine sr_iinc (lv' := [some (vR 61), some (vI x1), some (vI (wI (x2 + 1)))]) (pc' := 109) dX9_keepDraft_106 rfl (by decide) rfl rfl ?_
      refine sr_goto (pc' := 81) dX9_keepDraft_109 rfl ?_
      exact ih x1 (wI (x2 + 1)) μ2
def mod_keepDraft_37   : Nat → Int → Mem → Option (Mem)
  | 0, _, _ => none
  | n + 1, x1, μ => if 21 ≤ x1 then (bnd (mset μ 63 0 (zN 0)) fun μ1 => bnd (mset μ1 63 1 (zN 0)) fun μ2 => some μ2) else ((ld μ 69 21 x1).bind fun v3 => (stx μ 64 21 x1 (zN v3)).bind fun μ4 => (ld μ4 70 21 x1).bind fun v5 => (stx μ4 65 21 x1 v5).bind fun μ6 => (ld μ6 71 21 x1).bind fun v7 => (stx μ6 66 21 x1 v7).bind fun μ8 => mod_keepDraft_81 (mod_keepDraft_37 n) BIG x1 0 μ8)
theorem mod_keepDraft_37_s {l : Launch} {G : Nv}     : ∀ (n : Nat) (x1 : Int) (μ : Mem), SR l G S88 mX9_keepDraft (mod_keepDraft_37 n x1 μ) jM 37 [some (vR 61), some (vI x1), none] [] μ := by
  intro n
  induction n with
  | zero => intro x1 μ; exact sr_none
  | succ n ih =>
    intro x1 μ
    rw [mod_keepDraft_37.eq_2]
    refine sr_iload_n (i := 1) (pc' := 38) dX9_keepDraft_37 rfl rfl rfl ?_
    refine sr_bipush (pc' := 40) dX9_keepDraft_38 rfl (by decide) (by decide) ?_
    refine sr_icmp_ge (pc' := 43) (tgt := 118) dX9_keepDraft_40 rfl rfl (fun c40 => ?_) (fun c40 => ?_)
    · refine sr_aload_n (i := 0) (pc' := 119) dX9_keepDraft_118 rfl rfl rfl ?_
      refine sr_getR (k := 1) (b := 63) (pc' := 122) cls_X9 dX9_keepDraft_119 rfl s88_61 rfl (by decide) w_337 ?_
      refine sr_iconst (pc' := 123) dX9_keepDraft_122 rfl (by decide) ?_
      refine sr_iconst (pc' := 124) dX9_keepDraft_123 rfl (by decide) ?_
      refine sr_zastc (j := 0) (pc' := 125) dX9_keepDraft_124 rfl s88_63 (by decide) (by decide) (by decide) rfl (fun μ1 hμ1 => ?_)
      refine sr_aload_n (i := 0) (pc' := 126) dX9_keepDraft_125 rfl rfl rfl ?_
      refine sr_getR (k := 1) (b := 63) (pc' := 129) cls_X9 dX9_keepDraft_126 rfl s88_61 rfl (by decide) w_337 ?_
      refine sr_iconst (pc' := 130) dX9_keepDraft_129 rfl (by decide) ?_
      refine sr_iconst (pc' := 131) dX9_keepDraft_130 rfl (by decide) ?_
      refine sr_zastc (j := 1) (pc' := 132) dX9_keepDraft_131 rfl s88_63 (by decide) (by decide) (by decide) rfl (fun μ2 hμ2 => ?_)
      exact sr_ret dX9_keepDraft_132 rfl rfl
    · refine sr_aload_n (i := 0) (pc' := 44) dX9_keepDraft_43 rfl rfl rfl ?_
      refine sr_getR (k := 3) (b := 64) (pc' := 47) cls_X9 dX9_keepDraft_44 rfl s88_61 rfl (by decide) w_319 ?_
      refine sr_iload_n (i := 1) (pc' := 48) dX9_keepDraft_47 rfl rfl rfl ?_
      refine sr_aload_n (i := 0) (pc' := 49) dX9_keepDraft_48 rfl rfl rfl ?_
      refine sr_getR (k := 9) (b := 69) (pc' := 52) cls_X9 dX9_keepDraft_49 rfl s88_61 rfl (by decide) w_375 ?_
      refine sr_iload_n (i := 1) (pc' := 53) dX9_keepDraft_52 rfl rfl rfl ?_
      refine sr_zald (pc' := 54) dX9_keepDraft_53 rfl s88_69 (by decide) (fun v3 hv3 hv3a hv3b => ?_)
      refine sr_zast (pc' := 55) dX9_keepDraft_54 rfl s88_64 (by decide) (fun μ4 hμ4 hμ4a hμ4b => ?_)
      refine sr_aload_n (i := 0) (pc' := 56) dX9_keepDraft_55 rfl rfl rfl ?_
      refine sr_getR (k := 4) (b := 65) (pc' := 59) cls_X9 dX9_keepDraft_56 rfl s88_61 rfl (by decide) w_318 ?_
      refine sr_iload_n (i := 1) (pc' := 60) dX9_keepDraft_59 rfl rfl rfl ?_
      refine sr_aload_n (i := 0) (pc' := 61) dX9_keepDraft_60 rfl rfl rfl ?_
      refine sr_getR (k := 10) (b := 70) (pc' := 64) cls_X9 dX9_keepDraft_61 rfl s88_61 rfl (by decide) w_334 ?_
      refine sr_iload_n (i := 1) (pc' := 65) dX9_keepDraft_64 rfl rfl rfl ?_
      refine sr_iald (pc' := 66) dX9_keepDraft_65 rfl s88_70 (by decide) (fun v5 hv5 hv5a hv5b => ?_)
      refine sr_iast (pc' := 67) dX9_keepDraft_66 rfl s88_65 (by decide) (fun μ6 hμ6 hμ6a hμ6b => ?_)
      refine sr_aload_n (i := 0) (pc' := 68) dX9_keepDraft_67 rfl rfl rfl ?_
      refine sr_getR (k := 5) (b := 66) (pc' := 71) cls_X9 dX9_keepDraft_68 rfl s88_61 rfl (by decide) w_341 ?_
      refine sr_iload_n (i := 1) (pc' := 72) dX9_keepDraft_71 rfl rfl rfl ?_
      refine sr_aload_n (i := 0) (pc' := 73) dX9_keepDraft_72 rfl rfl rfl ?_
      refine sr_getR (k := 11) (b := 71) (pc' := 76) cls_X9 dX9_keepDraft_73 rfl s88_61 rfl (by decide) w_376 ?_
      refine sr_iload_n (i := 1) (pc' := 77) dX9_keepDraft_76 rfl rfl rfl ?_
      refine sr_iald (pc' := 78) dX9_keepDraft_77 rfl s88_71 (by decide) (fun v7 hv7 hv7a hv7b => ?_)
      refine sr_iast (pc' := 79) dX9_keepDraft_78 rfl s88_66 (by decide) (fun μ8 hμ8 hμ8a hμ8b => ?_)
      refine sr_iconst (pc' := 80) dX9_keepDraft_79 rfl (by decide) ?_
      refine sr_istore_n (i := 2) (lv' := [some (vR 61), some (vI x1), some (vI 0)]) (pc' := 81) dX9_keepDraft_80 rfl rfl (by decide) rfl ?_
      exact mod_keepDraft_81_s ih BIG x1 0 μ8
def mod_keepDraft_2   : Nat → Int → Mem → Option (Mem)
  | 0, _, _ => none
  | n + 1, x1, μ => if 185 ≤ x1 then (bnd (mset μ 61 2 (μ 61 8)) fun μ1 => mod_keepDraft_37 BIG 0 μ1) else ((ld μ 68 185 x1).bind fun v2 => (stx μ 62 555 x1 v2).bind fun μ3 => mod_keepDraft_2 n (wI (x1 + 1)) μ3)
theorem mod_keepDraft_2_s {l : Launch} {G : Nv}     : ∀ (n : Nat) (x1 : Int) (μ : Mem), SR l G S88 mX9_keepDraft (mod_keepDraft_2 n x1 μ) jM 2 [some (vR 61), some (vI x1), none] [] μ := by
  intro n
  induction n with
  | zero => intro x1 μ; exact sr_none
  | succ n ih =>
    intro x1 μ
    rw [mod_keepDraft_2.eq_2]
    refine sr_iload_n (i := 1) (pc' := 3) dX9_keepDraft_2 rfl rfl rfl ?_
    refine sr_sipush (pc' := 6) dX9_keepDraft_3 rfl (by decide) (by decide) ?_
    refine sr_icmp_ge (pc' := 9) (tgt := 27) dX9_keepDraft_6 rfl rfl (fun c6 => ?_) (fun c6 => ?_)
    · refine sr_aload_n (i := 0) (pc' := 28) dX9_keepDraft_27 rfl rfl rfl ?_
      refine sr_aload_n (i := 0) (pc' := 29) dX9_keepDraft_28 rfl rfl rfl ?_
      refine sr_getI (k := 8) (pc' := 32) cls_X9 dX9_keepDraft_29 rfl s88_61 rfl (by decide) w_371 ?_
      refine sr_putI (k := 2) (pc' := 35) cls_X9 dX9_keepDraft_32 rfl s88_61 rfl (by decide) w_339 rfl rfl (fun μ1 hμ1 => ?_)
      refine sr_iconst (pc' := 36) dX9_keepDraft_35 rfl (by decide) ?_
      refine sr_istore_n (i := 1) (lv' := [some (vR 61), some (vI 0), none]) (pc' := 37) dX9_keepDraft_36 rfl rfl (by decide) rfl ?_
      exact mod_keepDraft_37_s BIG 0 μ1
    · refine sr_aload_n (i := 0) (pc' := 10) dX9_keepDraft_9 rfl rfl rfl ?_
      refine sr_getR (k := 0) (b := 62) (pc' := 13) cls_X9 dX9_keepDraft_10 rfl s88_61 rfl (by decide) w_311 ?_
      refine sr_iload_n (i := 1) (pc' := 14) dX9_keepDraft_13 rfl rfl rfl ?_
      refine sr_aload_n (i := 0) (pc' := 15) dX9_keepDraft_14 rfl rfl rfl ?_
      refine sr_getR (k := 7) (b := 68) (pc' := 18) cls_X9 dX9_keepDraft_15 rfl s88_61 rfl (by decide) w_377 ?_
      refine sr_iload_n (i := 1) (pc' := 19) dX9_keepDraft_18 rfl rfl rfl ?_
      refine sr_iald (pc' := 20) dX9_keepDraft_19 rfl s88_68 (by decide) (fun v2 hv2 hv2a hv2b => ?_)
      refine sr_iast (pc' := 21) dX9_keepDraft_20 rfl s88_62 (by decide) (fun μ3 hμ3 hμ3a hμ3b => ?_)
      refine sr_iinc (lv' := [some (vR 61), some (vI (wI (x1 + 1))), none]) (pc' := 24) dX9_keepDraft_21 rfl (by decide) rfl rfl ?_
      refine sr_goto (pc' := 2) dX9_keepDraft_24 rfl ?_
      exact ih (wI (x1 + 1)) μ3
def mod_keepDraft   (μ : Mem) : Option (Mem) := mod_keepDraft_2 BIG 0 μ
theorem mod_keepDraft_sp {l : Launch} {G : Nv}   (μ : Mem) : SP l G S88 mX9_keepDraft [vR 61] μ (mod_keepDraft μ) jM := by
  refine sp_go (lv := [some (vR 61), none, none]) pn_X9 (Nat.le_of_ble_eq_true rfl) rfl ?_
  unfold mod_keepDraft
  refine sr_iconst (pc' := 1) dX9_keepDraft_0 rfl (by decide) ?_
  refine sr_istore_n (i := 1) (lv' := [some (vR 61), some (vI 0), none]) (pc' := 2) dX9_keepDraft_1 rfl rfl (by decide) rfl ?_
  exact mod_keepDraft_2_s BIG 0 μ
def mod_kindNow_116 (μ : Mem)  : Option (Int) := (mod_is μ 8 115 109 117).bind fun u1 => if u1 = 0 then (some (-4)) else ((mod_ends μ 103 103 108).bind fun u2 => if u2 = 0 then (some (-4)) else ((mod_look μ (wI ((μ 61 20) + 6))).bind fun u3 => if u3 = 101 then ((mod_look μ (wI ((μ 61 20) + 7))).bind fun u4 => if u4 = 114 then (some 4) else (some (-4))) else (some (-4))))
theorem mod_kindNow_116_s {l : Launch} {G : Nv}   (μ : Mem)   : SR l G S88 mX9_kindNow (mod_kindNow_116 μ) (jI μ) 116 [some (vR 61)] [] μ := by
  unfold mod_kindNow_116
  refine sr_aload_n (i := 0) (pc' := 117) dX9_kindNow_116 rfl rfl rfl ?_
  refine sr_bipush (pc' := 119) dX9_kindNow_117 rfl (by decide) (by decide) ?_
  refine sr_bipush (pc' := 121) dX9_kindNow_119 rfl (by decide) (by decide) ?_
  refine sr_bipush (pc' := 123) dX9_kindNow_121 rfl (by decide) (by decide) ?_
  refine sr_bipush (pc' := 125) dX9_kindNow_123 rfl (by decide) (by decide) ?_
  refine sr_callV4_I (pc' := 128) (mod_is_sp 8 115 109 117 μ) dX9_kindNow_125 rfl mg_X9_is mi_X9_is (Or.inl ⟨9, _, TX9, 40, s88_61, rfl⟩) ⟨Nat.le_of_ble_eq_true rfl, Nat.le_of_ble_eq_true rfl⟩ w_383 (Nat.le_of_ble_eq_true rfl) (fun u1 hu1 hcu1 hzu1 => ?_)
  refine sr_if_eq (pc' := 131) (tgt := 180) dX9_kindNow_128 rfl rfl (fun c128 => ?_) (fun c128 => ?_)
  · refine sr_bipush (pc' := 182) dX9_kindNow_180 rfl (by decide) (by decide) ?_
    exact sr_iretI dX9_kindNow_182 rfl rfl
  · refine sr_aload_n (i := 0) (pc' := 132) dX9_kindNow_131 rfl rfl rfl ?_
    refine sr_bipush (pc' := 134) dX9_kindNow_132 rfl (by decide) (by decide) ?_
    refine sr_bipush (pc' := 136) dX9_kindNow_134 rfl (by decide) (by decide) ?_
    refine sr_bipush (pc' := 138) dX9_kindNow_136 rfl (by decide) (by decide) ?_
    refine sr_callV3_I (pc' := 141) (mod_ends_sp 103 103 108 μ) dX9_kindNow_138 rfl mg_X9_ends mi_X9_ends (Or.inl ⟨9, _, TX9, 40, s88_61, rfl⟩) ⟨Nat.le_of_ble_eq_true rfl, Nat.le_of_ble_eq_true rfl⟩ w_384 (Nat.le_of_ble_eq_true rfl) (fun u2 hu2 hcu2 hzu2 => ?_)
    refine sr_if_eq (pc' := 144) (tgt := 180) dX9_kindNow_141 rfl rfl (fun c141 => ?_) (fun c141 => ?_)
    · refine sr_bipush (pc' := 182) dX9_kindNow_180 rfl (by decide) (by decide) ?_
      exact sr_iretI dX9_kindNow_182 rfl rfl
    · refine sr_aload_n (i := 0) (pc' := 145) dX9_kindNow_144 rfl rfl rfl ?_
      refine sr_aload_n (i := 0) (pc' := 146) dX9_kindNow_145 rfl rfl rfl ?_
      refine sr_getI (k := 20) (pc' := 149) cls_X9 dX9_kindNow_146 rfl s88_61 rfl (by decide) w_358 ?_
      refine sr_bipush (pc' := 151) dX9_kindNow_149 rfl (by decide) (by decide) ?_
      refine sr_iadd (pc' := 152) dX9_kindNow_151 rfl ?_
      refine sr_callV1_I (pc' := 155) (mod_look_sp (wI ((μ 61 20) + 6)) μ) dX9_kindNow_152 rfl mg_X9_look mi_X9_look (Or.inl ⟨9, _, TX9, 40, s88_61, rfl⟩) ⟨Nat.le_of_ble_eq_true rfl, Nat.le_of_ble_eq_true rfl⟩ w_359 (Nat.le_of_ble_eq_true rfl) (fun u3 hu3 hcu3 hzu3 => ?_)
      refine sr_bipush (pc' := 157) dX9_kindNow_155 rfl (by decide) (by decide) ?_
      refine sr_icmp_ne (pc' := 160) (tgt := 180) dX9_kindNow_157 rfl rfl (fun c157 => ?_) (fun c157 => ?_)
      · refine sr_aload_n (i := 0) (pc' := 161) dX9_kindNow_160 rfl rfl rfl ?_
        refine sr_aload_n (i := 0) (pc' := 162) dX9_kindNow_161 rfl rfl rfl ?_
        refine sr_getI (k := 20) (pc' := 165) cls_X9 dX9_kindNow_162 rfl s88_61 rfl (by decide) w_358 ?_
        refine sr_bipush (pc' := 167) dX9_kindNow_165 rfl (by decide) (by decide) ?_
        refine sr_iadd (pc' := 168) dX9_kindNow_167 rfl ?_
        refine sr_callV1_I (pc' := 171) (mod_look_sp (wI ((μ 61 20) + 7)) μ) dX9_kindNow_168 rfl mg_X9_look mi_X9_look (Or.inl ⟨9, _, TX9, 40, s88_61, rfl⟩) ⟨Nat.le_of_ble_eq_true rfl, Nat.le_of_ble_eq_true rfl⟩ w_359 (Nat.le_of_ble_eq_true rfl) (fun u4 hu4 hcu4 hzu4 => ?_)
        refine sr_bipush (pc' := 173) dX9_kindNow_171 rfl (by decide) (by decide) ?_
        refine sr_icmp_ne (pc' := 176) (tgt := 180) dX9_kindNow_173 rfl rfl (fun c173 => ?_) (fun c173 => ?_)
        · refine sr_iconst (pc' := 177) dX9_kindNow_176 rfl (by decide) ?_
          refine sr_goto (pc' := 182) dX9_kindNow_177 rfl ?_
          exact sr_iretI dX9_kindNow_182 rfl rfl
        · refine sr_bipush (pc' := 182) dX9_kindNow_180 rfl (by decide) (by decide) ?_
          exact sr_iretI dX9_kindNow_182 rfl rfl
      · refine sr_bipush (pc' := 182) dX9_kindNow_180 rfl (by decide) (by decide) ?_
        exact sr_iretI dX9_kindNow_182 rfl rfl
def mod_kindNow_88 (μ : Mem)  : Option (Int) := (mod_is μ 5 104 105 114).bind fun u1 => if u1 = 0 then (mod_kindNow_116 μ) else ((mod_ends μ 101 100 0).bind fun u2 => if u2 = 0 then (mod_kindNow_116 μ) else (some 3))
theorem mod_kindNow_88_s {l : Launch} {G : Nv}   (μ : Mem)   : SR l G S88 mX9_kindNow (mod_kindNow_88 μ) (jI μ) 88 [some (vR 61)] [] μ := by
  unfold mod_kindNow_88
  refine sr_aload_n (i := 0) (pc' := 89) dX9_kindNow_88 rfl rfl rfl ?_
  refine sr_iconst (pc' := 90) dX9_kindNow_89 rfl (by decide) ?_
  refine sr_bipush (pc' := 92) dX9_kindNow_90 rfl (by decide) (by decide) ?_
  refine sr_bipush (pc' := 94) dX9_kindNow_92 rfl (by decide) (by decide) ?_
  refine sr_bipush (pc' := 96) dX9_kindNow_94 rfl (by decide) (by decide) ?_
  refine sr_callV4_I (pc' := 99) (mod_is_sp 5 104 105 114 μ) dX9_kindNow_96 rfl mg_X9_is mi_X9_is (Or.inl ⟨9, _, TX9, 40, s88_61, rfl⟩) ⟨Nat.le_of_ble_eq_true rfl, Nat.le_of_ble_eq_true rfl⟩ w_383 (Nat.le_of_ble_eq_true rfl) (fun u1 hu1 hcu1 hzu1 => ?_)
  refine sr_if_eq (pc' := 102) (tgt := 116) dX9_kindNow_99 rfl rfl (fun c99 => ?_) (fun c99 => ?_)
  · exact mod_kindNow_116_s μ
  · refine sr_aload_n (i := 0) (pc' := 103) dX9_kindNow_102 rfl rfl rfl ?_
    refine sr_bipush (pc' := 105) dX9_kindNow_103 rfl (by decide) (by decide) ?_
    refine sr_bipush (pc' := 107) dX9_kindNow_105 rfl (by decide) (by decide) ?_
    refine sr_iconst (pc' := 108) dX9_kindNow_107 rfl (by decide) ?_
    refine sr_callV3_I (pc' := 111) (mod_ends_sp 101 100 0 μ) dX9_kindNow_108 rfl mg_X9_ends mi_X9_ends (Or.inl ⟨9, _, TX9, 40, s88_61, rfl⟩) ⟨Nat.le_of_ble_eq_true rfl, Nat.le_of_ble_eq_true rfl⟩ w_384 (Nat.le_of_ble_eq_true rfl) (fun u2 hu2 hcu2 hzu2 => ?_)
    refine sr_if_eq (pc' := 114) (tgt := 116) dX9_kindNow_111 rfl rfl (fun c111 => ?_) (fun c111 => ?_)
    · exact mod_kindNow_116_s μ
    · refine sr_iconst (pc' := 115) dX9_kindNow_114 rfl (by decide) ?_
      exact sr_iretI dX9_kindNow_115 rfl rfl
def mod_kindNow_58 (μ : Mem)  : Option (Int) := (mod_is μ 6 115 108 101).bind fun u1 => if u1 = 0 then (mod_kindNow_88 μ) else ((mod_ends μ 100 103 101).bind fun u2 => if u2 = 0 then (mod_kindNow_88 μ) else (some 2))
theorem mod_kindNow_58_s {l : Launch} {G : Nv}   (μ : Mem)   : SR l G S88 mX9_kindNow (mod_kindNow_58 μ) (jI μ) 58 [some (vR 61)] [] μ := by
  unfold mod_kindNow_58
  refine sr_aload_n (i := 0) (pc' := 59) dX9_kindNow_58 rfl rfl rfl ?_
  refine sr_bipush (pc' := 61) dX9_kindNow_59 rfl (by decide) (by decide) ?_
  refine sr_bipush (pc' := 63) dX9_kindNow_61 rfl (by decide) (by decide) ?_
  refine sr_bipush (pc' := 65) dX9_kindNow_63 rfl (by decide) (by decide) ?_
  refine sr_bipush (pc' := 67) dX9_kindNow_65 rfl (by decide) (by decide) ?_
  refine sr_callV4_I (pc' := 70) (mod_is_sp 6 115 108 101 μ) dX9_kindNow_67 rfl mg_X9_is mi_X9_is (Or.inl ⟨9, _, TX9, 40, s88_61, rfl⟩) ⟨Nat.le_of_ble_eq_true rfl, Nat.le_of_ble_eq_true rfl⟩ w_383 (Nat.le_of_ble_eq_true rfl) (fun u1 hu1 hcu1 hzu1 => ?_)
  refine sr_if_eq (pc' := 73) (tgt := 88) dX9_kindNow_70 rfl rfl (fun c70 => ?_) (fun c70 => ?_)
  · exact mod_kindNow_88_s μ
  · refine sr_aload_n (i := 0) (pc' := 74) dX9_kindNow_73 rfl rfl rfl ?_
    refine sr_bipush (pc' := 76) dX9_kindNow_74 rfl (by decide) (by decide) ?_
    refine sr_bipush (pc' := 78) dX9_kindNow_76 rfl (by decide) (by decide) ?_
    refine sr_bipush (pc' := 80) dX9_kindNow_78 rfl (by decide) (by decide) ?_
    refine sr_callV3_I (pc' := 83) (mod_ends_sp 100 103 101 μ) dX9_kindNow_80 rfl mg_X9_ends mi_X9_ends (Or.inl ⟨9, _, TX9, 40, s88_61, rfl⟩) ⟨Nat.le_of_ble_eq_true rfl, Nat.le_of_ble_eq_true rfl⟩ w_384 (Nat.le_of_ble_eq_true rfl) (fun u2 hu2 hcu2 hzu2 => ?_)
    refine sr_if_eq (pc' := 86) (tgt := 88) dX9_kindNow_83 rfl rfl (fun c83 => ?_) (fun c83 => ?_)
    · exact mod_kindNow_88_s μ
    · refine sr_iconst (pc' := 87) dX9_kindNow_86 rfl (by decide) ?_
      exact sr_iretI dX9_kindNow_87 rfl rfl
def mod_kindNow_28 (μ : Mem)  : Option (Int) := (mod_is μ 6 100 111 117).bind fun u1 => if u1 = 0 then (mod_kindNow_58 μ) else ((mod_ends μ 98 108 101).bind fun u2 => if u2 = 0 then (mod_kindNow_58 μ) else (some 1))
theorem mod_kindNow_28_s {l : Launch} {G : Nv}   (μ : Mem)   : SR l G S88 mX9_kindNow (mod_kindNow_28 μ) (jI μ) 28 [some (vR 61)] [] μ := by
  unfold mod_kindNow_28
  refine sr_aload_n (i := 0) (pc' := 29) dX9_kindNow_28 rfl rfl rfl ?_
  refine sr_bipush (pc' := 31) dX9_kindNow_29 rfl (by decide) (by decide) ?_
  refine sr_bipush (pc' := 33) dX9_kindNow_31 rfl (by decide) (by decide) ?_
  refine sr_bipush (pc' := 35) dX9_kindNow_33 rfl (by decide) (by decide) ?_
  refine sr_bipush (pc' := 37) dX9_kindNow_35 rfl (by decide) (by decide) ?_
  refine sr_callV4_I (pc' := 40) (mod_is_sp 6 100 111 117 μ) dX9_kindNow_37 rfl mg_X9_is mi_X9_is (Or.inl ⟨9, _, TX9, 40, s88_61, rfl⟩) ⟨Nat.le_of_ble_eq_true rfl, Nat.le_of_ble_eq_true rfl⟩ w_383 (Nat.le_of_ble_eq_true rfl) (fun u1 hu1 hcu1 hzu1 => ?_)
  refine sr_if_eq (pc' := 43) (tgt := 58) dX9_kindNow_40 rfl rfl (fun c40 => ?_) (fun c40 => ?_)
  · exact mod_kindNow_58_s μ
  · refine sr_aload_n (i := 0) (pc' := 44) dX9_kindNow_43 rfl rfl rfl ?_
    refine sr_bipush (pc' := 46) dX9_kindNow_44 rfl (by decide) (by decide) ?_
    refine sr_bipush (pc' := 48) dX9_kindNow_46 rfl (by decide) (by decide) ?_
    refine sr_bipush (pc' := 50) dX9_kindNow_48 rfl (by decide) (by decide) ?_
    refine sr_callV3_I (pc' := 53) (mod_ends_sp 98 108 101 μ) dX9_kindNow_50 rfl mg_X9_ends mi_X9_ends (Or.inl ⟨9, _, TX9, 40, s88_61, rfl⟩) ⟨Nat.le_of_ble_eq_true rfl, Nat.le_of_ble_eq_true rfl⟩ w_384 (Nat.le_of_ble_eq_true rfl) (fun u2 hu2 hcu2 hzu2 => ?_)
    refine sr_if_eq (pc' := 56) (tgt := 58) dX9_kindNow_53 rfl rfl (fun c53 => ?_) (fun c53 => ?_)
    · exact mod_kindNow_58_s μ
    · refine sr_iconst (pc' := 57) dX9_kindNow_56 rfl (by decide) ?_
      exact sr_iretI dX9_kindNow_57 rfl rfl
def mod_kindNow (μ : Mem)  : Option (Int) := (mod_is μ 5 112 108 97).bind fun u1 => if u1 = 0 then (mod_kindNow_28 μ) else ((mod_ends μ 105 110 0).bind fun u2 => if u2 = 0 then (mod_kindNow_28 μ) else (some 0))
theorem mod_kindNow_sp {l : Launch} {G : Nv}   (μ : Mem) : SP l G S88 mX9_kindNow [vR 61] μ (mod_kindNow μ) (jI μ) := by
  refine sp_go (lv := [some (vR 61)]) pn_X9 (Nat.le_of_ble_eq_true rfl) rfl ?_
  unfold mod_kindNow
  refine sr_aload_n (i := 0) (pc' := 1) dX9_kindNow_0 rfl rfl rfl ?_
  refine sr_iconst (pc' := 2) dX9_kindNow_1 rfl (by decide) ?_
  refine sr_bipush (pc' := 4) dX9_kindNow_2 rfl (by decide) (by decide) ?_
  refine sr_bipush (pc' := 6) dX9_kindNow_4 rfl (by decide) (by decide) ?_
  refine sr_bipush (pc' := 8) dX9_kindNow_6 rfl (by decide) (by decide) ?_
  refine sr_callV4_I (pc' := 11) (mod_is_sp 5 112 108 97 μ) dX9_kindNow_8 rfl mg_X9_is mi_X9_is (Or.inl ⟨9, _, TX9, 40, s88_61, rfl⟩) ⟨Nat.le_of_ble_eq_true rfl, Nat.le_of_ble_eq_true rfl⟩ w_383 (Nat.le_of_ble_eq_true rfl) (fun u1 hu1 hcu1 hzu1 => ?_)
  refine sr_if_eq (pc' := 14) (tgt := 28) dX9_kindNow_11 rfl rfl (fun c11 => ?_) (fun c11 => ?_)
  · exact mod_kindNow_28_s μ
  · refine sr_aload_n (i := 0) (pc' := 15) dX9_kindNow_14 rfl rfl rfl ?_
    refine sr_bipush (pc' := 17) dX9_kindNow_15 rfl (by decide) (by decide) ?_
    refine sr_bipush (pc' := 19) dX9_kindNow_17 rfl (by decide) (by decide) ?_
    refine sr_iconst (pc' := 20) dX9_kindNow_19 rfl (by decide) ?_
    refine sr_callV3_I (pc' := 23) (mod_ends_sp 105 110 0 μ) dX9_kindNow_20 rfl mg_X9_ends mi_X9_ends (Or.inl ⟨9, _, TX9, 40, s88_61, rfl⟩) ⟨Nat.le_of_ble_eq_true rfl, Nat.le_of_ble_eq_true rfl⟩ w_384 (Nat.le_of_ble_eq_true rfl) (fun u2 hu2 hcu2 hzu2 => ?_)
    refine sr_if_eq (pc' := 26) (tgt := 28) dX9_kindNow_23 rfl rfl (fun c23 => ?_) (fun c23 => ?_)
    · exact mod_kindNow_28_s μ
    · refine sr_iconst (pc' := 27) dX9_kindNow_26 rfl (by decide) ?_
      exact sr_iretI dX9_kindNow_27 rfl rfl
def mod_lay_85   (s1 s2 : Int) (μ : Mem) : Option (Int × Mem) := (stx μ 87 160 s1 s2).bind fun μ1 => some (1, μ1)
theorem mod_lay_85_s {l : Launch} {G : Nv}     : ∀ (s1 s2 : Int) (μ : Mem), SR l G S88 mX9_lay (mod_lay_85 s1 s2 μ) jIM 85 [none, none, none, none] [vI s2, vI s1, vR 87] μ := by
  intro s1 s2 μ
  unfold mod_lay_85
  refine sr_iast (pc' := 86) dX9_lay_85 rfl s88_87 (by decide) (fun μ1 hμ1 hμ1a hμ1b => ?_)
  refine sr_iconst (pc' := 87) dX9_lay_86 rfl (by decide) ?_
  exact sr_iretI dX9_lay_87 rfl rfl
def mod_lay   (x1 x2 x3 : Int) (μ : Mem) : Option (Int × Mem) := (mod_isSheet μ x1 0).bind fun u1 => if u1 = 0 then (some ((-1), μ)) else ((ld μ 85 4 x1).bind fun v2 => if v2 = (-4) then (some ((-11), μ)) else ((ld μ 86 4 x1).bind fun v3 => (mod_in μ x2 0 (wI (v3 - 1))).bind fun u4 => if u4 = 0 then (some ((-12), μ)) else ((ld μ 85 4 x1).bind fun v5 => if v5 = 0 then (mod_lay_85 (wI ((wI (40 * x1)) + x2)) (i2b x3) μ) else ((ld μ 85 4 x1).bind fun v6 => if v6 = 1 then (mod_lay_85 (wI ((wI (40 * x1)) + x2)) (i2s x3) μ) else (mod_lay_85 (wI ((wI (40 * x1)) + x2)) x3 μ)))))
theorem mod_lay_sp {l : Launch} {G : Nv}   (x1 x2 x3 : Int) (μ : Mem) : SP l G S88 mX9_lay [vR 61, vI x1, vI x2, vI x3] μ (mod_lay x1 x2 x3 μ) jIM := by
  refine sp_go (lv := [some (vR 61), some (vI x1), some (vI x2), some (vI x3)]) pn_X9 (Nat.le_of_ble_eq_true rfl) rfl ?_
  unfold mod_lay
  refine sr_iload_n (i := 1) (pc' := 1) dX9_lay_0 rfl rfl rfl ?_
  refine sr_iconst (pc' := 2) dX9_lay_1 rfl (by decide) ?_
  refine sr_callS2_I (pc' := 5) (mod_isSheet_sp x1 0 μ) dX9_lay_2 rfl mg_X9_isSheet ms_X9_isSheet ⟨Nat.le_of_ble_eq_true rfl, Nat.le_of_ble_eq_true rfl⟩ w_385 (Nat.le_of_ble_eq_true rfl) (fun u1 hu1 hcu1 hzu1 => ?_)
  refine sr_if_ne (pc' := 8) (tgt := 10) dX9_lay_5 rfl rfl (fun c5 => ?_) (fun c5 => ?_)
  · refine sr_iconst (pc' := 9) dX9_lay_8 rfl (by decide) ?_
    exact sr_iretI dX9_lay_9 rfl rfl
  · refine sr_aload_n (i := 0) (pc' := 11) dX9_lay_10 rfl rfl rfl ?_
    refine sr_getR (k := 36) (b := 85) (pc' := 14) cls_X9 dX9_lay_11 rfl s88_61 rfl (by decide) w_349 ?_
    refine sr_iload_n (i := 1) (pc' := 15) dX9_lay_14 rfl rfl rfl ?_
    refine sr_iald (pc' := 16) dX9_lay_15 rfl s88_85 (by decide) (fun v2 hv2 hv2a hv2b => ?_)
    refine sr_bipush (pc' := 18) dX9_lay_16 rfl (by decide) (by decide) ?_
    refine sr_icmp_ne (pc' := 21) (tgt := 24) dX9_lay_18 rfl rfl (fun c18 => ?_) (fun c18 => ?_)
    · refine sr_bipush (pc' := 23) dX9_lay_21 rfl (by decide) (by decide) ?_
      exact sr_iretI dX9_lay_23 rfl rfl
    · refine sr_iload_n (i := 2) (pc' := 25) dX9_lay_24 rfl rfl rfl ?_
      refine sr_i2l (pc' := 26) dX9_lay_25 rfl ?_
      refine sr_lconst (x := 0) (pc' := 27) dX9_lay_26 rfl (by decide) rfl ?_
      refine sr_aload_n (i := 0) (pc' := 28) dX9_lay_27 rfl rfl rfl ?_
      refine sr_getR (k := 37) (b := 86) (pc' := 31) cls_X9 dX9_lay_28 rfl s88_61 rfl (by decide) w_350 ?_
      refine sr_iload_n (i := 1) (pc' := 32) dX9_lay_31 rfl rfl rfl ?_
      refine sr_iald (pc' := 33) dX9_lay_32 rfl s88_86 (by decide) (fun v3 hv3 hv3a hv3b => ?_)
      refine sr_iconst (pc' := 34) dX9_lay_33 rfl (by decide) ?_
      refine sr_isub (pc' := 35) dX9_lay_34 rfl ?_
      refine sr_i2l (pc' := 36) dX9_lay_35 rfl ?_
      refine sr_callS3_I (pc' := 39) (mod_in_sp x2 0 (wI (v3 - 1)) μ) dX9_lay_36 rfl mg_X9_in ms_X9_in ⟨Nat.le_of_ble_eq_true rfl, Nat.le_of_ble_eq_true rfl⟩ w_336 (Nat.le_of_ble_eq_true rfl) (fun u4 hu4 hcu4 hzu4 => ?_)
      refine sr_if_ne (pc' := 42) (tgt := 45) dX9_lay_39 rfl rfl (fun c39 => ?_) (fun c39 => ?_)
      · refine sr_bipush (pc' := 44) dX9_lay_42 rfl (by decide) (by decide) ?_
        exact sr_iretI dX9_lay_44 rfl rfl
      · refine sr_aload_n (i := 0) (pc' := 46) dX9_lay_45 rfl rfl rfl ?_
        refine sr_getR (k := 38) (b := 87) (pc' := 49) cls_X9 dX9_lay_46 rfl s88_61 rfl (by decide) w_386 ?_
        refine sr_bipush (pc' := 51) dX9_lay_49 rfl (by decide) (by decide) ?_
        refine sr_iload_n (i := 1) (pc' := 52) dX9_lay_51 rfl rfl rfl ?_
        refine sr_imul (pc' := 53) dX9_lay_52 rfl ?_
        refine sr_iload_n (i := 2) (pc' := 54) dX9_lay_53 rfl rfl rfl ?_
        refine sr_iadd (pc' := 55) dX9_lay_54 rfl ?_
        refine sr_aload_n (i := 0) (pc' := 56) dX9_lay_55 rfl rfl rfl ?_
        refine sr_getR (k := 36) (b := 85) (pc' := 59) cls_X9 dX9_lay_56 rfl s88_61 rfl (by decide) w_349 ?_
        refine sr_iload_n (i := 1) (pc' := 60) dX9_lay_59 rfl rfl rfl ?_
        refine sr_iald (pc' := 61) dX9_lay_60 rfl s88_85 (by decide) (fun v5 hv5 hv5a hv5b => ?_)
        refine sr_if_ne (pc' := 64) (tgt := 69) dX9_lay_61 rfl rfl (fun c61 => ?_) (fun c61 => ?_)
        · refine sr_iload_n (i := 3) (pc' := 65) dX9_lay_64 rfl rfl rfl ?_
          refine sr_i2b (pc' := 66) dX9_lay_65 rfl ?_
          refine sr_goto (pc' := 85) dX9_lay_66 rfl ?_
          refine sr_fgt (fgt_n (fgt_n (fgt_n (fgt_n fgt_nil)))) ?_
          exact mod_lay_85_s (wI ((wI (40 * x1)) + x2)) (i2b x3) μ
        · refine sr_aload_n (i := 0) (pc' := 70) dX9_lay_69 rfl rfl rfl ?_
          refine sr_getR (k := 36) (b := 85) (pc' := 73) cls_X9 dX9_lay_70 rfl s88_61 rfl (by decide) w_349 ?_
          refine sr_iload_n (i := 1) (pc' := 74) dX9_lay_73 rfl rfl rfl ?_
          refine sr_iald (pc' := 75) dX9_lay_74 rfl s88_85 (by decide) (fun v6 hv6 hv6a hv6b => ?_)
          refine sr_iconst (pc' := 76) dX9_lay_75 rfl (by decide) ?_
          refine sr_icmp_ne (pc' := 79) (tgt := 84) dX9_lay_76 rfl rfl (fun c76 => ?_) (fun c76 => ?_)
          · refine sr_iload_n (i := 3) (pc' := 80) dX9_lay_79 rfl rfl rfl ?_
            refine sr_i2s (pc' := 81) dX9_lay_80 rfl ?_
            refine sr_goto (pc' := 85) dX9_lay_81 rfl ?_
            refine sr_fgt (fgt_n (fgt_n (fgt_n (fgt_n fgt_nil)))) ?_
            exact mod_lay_85_s (wI ((wI (40 * x1)) + x2)) (i2s x3) μ
          · refine sr_iload_n (i := 3) (pc' := 85) dX9_lay_84 rfl rfl rfl ?_
            refine sr_fgt (fgt_n (fgt_n (fgt_n (fgt_n fgt_nil)))) ?_
            exact mod_lay_85_s (wI ((wI (40 * x1)) + x2)) x3 μ
def mod_roadLine_71 (μ : Mem)  : Option (Int) := (mod_is μ 5 115 109 105).bind fun u1 => if u1 = 0 then (some (-4)) else ((mod_ends μ 116 104 0).bind fun u2 => if u2 = 0 then (some (-4)) else (some 3))
theorem mod_roadLine_71_s {l : Launch} {G : Nv}   (μ : Mem)   : SR l G S88 mX9_roadLine (mod_roadLine_71 μ) (jI μ) 71 [some (vR 61)] [] μ := by
  unfold mod_roadLine_71
  refine sr_aload_n (i := 0) (pc' := 72) dX9_roadLine_71 rfl rfl rfl ?_
  refine sr_iconst (pc' := 73) dX9_roadLine_72 rfl (by decide) ?_
  refine sr_bipush (pc' := 75) dX9_roadLine_73 rfl (by decide) (by decide) ?_
  refine sr_bipush (pc' := 77) dX9_roadLine_75 rfl (by decide) (by decide) ?_
  refine sr_bipush (pc' := 79) dX9_roadLine_77 rfl (by decide) (by decide) ?_
  refine sr_callV4_I (pc' := 82) (mod_is_sp 5 115 109 105 μ) dX9_roadLine_79 rfl mg_X9_is mi_X9_is (Or.inl ⟨9, _, TX9, 40, s88_61, rfl⟩) ⟨Nat.le_of_ble_eq_true rfl, Nat.le_of_ble_eq_true rfl⟩ w_383 (Nat.le_of_ble_eq_true rfl) (fun u1 hu1 hcu1 hzu1 => ?_)
  refine sr_if_eq (pc' := 85) (tgt := 101) dX9_roadLine_82 rfl rfl (fun c82 => ?_) (fun c82 => ?_)
  · refine sr_bipush (pc' := 103) dX9_roadLine_101 rfl (by decide) (by decide) ?_
    exact sr_iretI dX9_roadLine_103 rfl rfl
  · refine sr_aload_n (i := 0) (pc' := 86) dX9_roadLine_85 rfl rfl rfl ?_
    refine sr_bipush (pc' := 88) dX9_roadLine_86 rfl (by decide) (by decide) ?_
    refine sr_bipush (pc' := 90) dX9_roadLine_88 rfl (by decide) (by decide) ?_
    refine sr_iconst (pc' := 91) dX9_roadLine_90 rfl (by decide) ?_
    refine sr_callV3_I (pc' := 94) (mod_ends_sp 116 104 0 μ) dX9_roadLine_91 rfl mg_X9_ends mi_X9_ends (Or.inl ⟨9, _, TX9, 40, s88_61, rfl⟩) ⟨Nat.le_of_ble_eq_true rfl, Nat.le_of_ble_eq_true rfl⟩ w_384 (Nat.le_of_ble_eq_true rfl) (fun u2 hu2 hcu2 hzu2 => ?_)
    refine sr_if_eq (pc' := 97) (tgt := 101) dX9_roadLine_94 rfl rfl (fun c94 => ?_) (fun c94 => ?_)
    · refine sr_bipush (pc' := 103) dX9_roadLine_101 rfl (by decide) (by decide) ?_
      exact sr_iretI dX9_roadLine_103 rfl rfl
    · refine sr_iconst (pc' := 98) dX9_roadLine_97 rfl (by decide) ?_
      refine sr_goto (pc' := 103) dX9_roadLine_98 rfl ?_
      exact sr_iretI dX9_roadLine_103 rfl rfl
def mod_roadLine_28 (μ : Mem)  : Option (Int) := (mod_is μ 3 98 111 103).bind fun u1 => if u1 = 0 then ((mod_is μ 4 104 105 108).bind fun u2 => if u2 = 0 then (mod_roadLine_71 μ) else ((mod_ends μ 108 0 0).bind fun u3 => if u3 = 0 then (mod_roadLine_71 μ) else (some 2))) else (some 1)
theorem mod_roadLine_28_s {l : Launch} {G : Nv}   (μ : Mem)   : SR l G S88 mX9_roadLine (mod_roadLine_28 μ) (jI μ) 28 [some (vR 61)] [] μ := by
  unfold mod_roadLine_28
  refine sr_aload_n (i := 0) (pc' := 29) dX9_roadLine_28 rfl rfl rfl ?_
  refine sr_iconst (pc' := 30) dX9_roadLine_29 rfl (by decide) ?_
  refine sr_bipush (pc' := 32) dX9_roadLine_30 rfl (by decide) (by decide) ?_
  refine sr_bipush (pc' := 34) dX9_roadLine_32 rfl (by decide) (by decide) ?_
  refine sr_bipush (pc' := 36) dX9_roadLine_34 rfl (by decide) (by decide) ?_
  refine sr_callV4_I (pc' := 39) (mod_is_sp 3 98 111 103 μ) dX9_roadLine_36 rfl mg_X9_is mi_X9_is (Or.inl ⟨9, _, TX9, 40, s88_61, rfl⟩) ⟨Nat.le_of_ble_eq_true rfl, Nat.le_of_ble_eq_true rfl⟩ w_383 (Nat.le_of_ble_eq_true rfl) (fun u1 hu1 hcu1 hzu1 => ?_)
  refine sr_if_eq (pc' := 42) (tgt := 44) dX9_roadLine_39 rfl rfl (fun c39 => ?_) (fun c39 => ?_)
  · refine sr_aload_n (i := 0) (pc' := 45) dX9_roadLine_44 rfl rfl rfl ?_
    refine sr_iconst (pc' := 46) dX9_roadLine_45 rfl (by decide) ?_
    refine sr_bipush (pc' := 48) dX9_roadLine_46 rfl (by decide) (by decide) ?_
    refine sr_bipush (pc' := 50) dX9_roadLine_48 rfl (by decide) (by decide) ?_
    refine sr_bipush (pc' := 52) dX9_roadLine_50 rfl (by decide) (by decide) ?_
    refine sr_callV4_I (pc' := 55) (mod_is_sp 4 104 105 108 μ) dX9_roadLine_52 rfl mg_X9_is mi_X9_is (Or.inl ⟨9, _, TX9, 40, s88_61, rfl⟩) ⟨Nat.le_of_ble_eq_true rfl, Nat.le_of_ble_eq_true rfl⟩ w_383 (Nat.le_of_ble_eq_true rfl) (fun u2 hu2 hcu2 hzu2 => ?_)
    refine sr_if_eq (pc' := 58) (tgt := 71) dX9_roadLine_55 rfl rfl (fun c55 => ?_) (fun c55 => ?_)
    · exact mod_roadLine_71_s μ
    · refine sr_aload_n (i := 0) (pc' := 59) dX9_roadLine_58 rfl rfl rfl ?_
      refine sr_bipush (pc' := 61) dX9_roadLine_59 rfl (by decide) (by decide) ?_
      refine sr_iconst (pc' := 62) dX9_roadLine_61 rfl (by decide) ?_
      refine sr_iconst (pc' := 63) dX9_roadLine_62 rfl (by decide) ?_
      refine sr_callV3_I (pc' := 66) (mod_ends_sp 108 0 0 μ) dX9_roadLine_63 rfl mg_X9_ends mi_X9_ends (Or.inl ⟨9, _, TX9, 40, s88_61, rfl⟩) ⟨Nat.le_of_ble_eq_true rfl, Nat.le_of_ble_eq_true rfl⟩ w_384 (Nat.le_of_ble_eq_true rfl) (fun u3 hu3 hcu3 hzu3 => ?_)
      refine sr_if_eq (pc' := 69) (tgt := 71) dX9_roadLine_66 rfl rfl (fun c66 => ?_) (fun c66 => ?_)
      · exact mod_roadLine_71_s μ
      · refine sr_iconst (pc' := 70) dX9_roadLine_69 rfl (by decide) ?_
        exact sr_iretI dX9_roadLine_70 rfl rfl
  · refine sr_iconst (pc' := 43) dX9_roadLine_42 rfl (by decide) ?_
    exact sr_iretI dX9_roadLine_43 rfl rfl
def mod_roadLine (μ : Mem)  : Option (Int) := (mod_is μ 5 121 97 114).bind fun u1 => if u1 = 0 then (mod_roadLine_28 μ) else ((mod_ends μ 100 115 0).bind fun u2 => if u2 = 0 then (mod_roadLine_28 μ) else (some 0))
theorem mod_roadLine_sp {l : Launch} {G : Nv}   (μ : Mem) : SP l G S88 mX9_roadLine [vR 61] μ (mod_roadLine μ) (jI μ) := by
  refine sp_go (lv := [some (vR 61)]) pn_X9 (Nat.le_of_ble_eq_true rfl) rfl ?_
  unfold mod_roadLine
  refine sr_aload_n (i := 0) (pc' := 1) dX9_roadLine_0 rfl rfl rfl ?_
  refine sr_iconst (pc' := 2) dX9_roadLine_1 rfl (by decide) ?_
  refine sr_bipush (pc' := 4) dX9_roadLine_2 rfl (by decide) (by decide) ?_
  refine sr_bipush (pc' := 6) dX9_roadLine_4 rfl (by decide) (by decide) ?_
  refine sr_bipush (pc' := 8) dX9_roadLine_6 rfl (by decide) (by decide) ?_
  refine sr_callV4_I (pc' := 11) (mod_is_sp 5 121 97 114 μ) dX9_roadLine_8 rfl mg_X9_is mi_X9_is (Or.inl ⟨9, _, TX9, 40, s88_61, rfl⟩) ⟨Nat.le_of_ble_eq_true rfl, Nat.le_of_ble_eq_true rfl⟩ w_383 (Nat.le_of_ble_eq_true rfl) (fun u1 hu1 hcu1 hzu1 => ?_)
  refine sr_if_eq (pc' := 14) (tgt := 28) dX9_roadLine_11 rfl rfl (fun c11 => ?_) (fun c11 => ?_)
  · exact mod_roadLine_28_s μ
  · refine sr_aload_n (i := 0) (pc' := 15) dX9_roadLine_14 rfl rfl rfl ?_
    refine sr_bipush (pc' := 17) dX9_roadLine_15 rfl (by decide) (by decide) ?_
    refine sr_bipush (pc' := 19) dX9_roadLine_17 rfl (by decide) (by decide) ?_
    refine sr_iconst (pc' := 20) dX9_roadLine_19 rfl (by decide) ?_
    refine sr_callV3_I (pc' := 23) (mod_ends_sp 100 115 0 μ) dX9_roadLine_20 rfl mg_X9_ends mi_X9_ends (Or.inl ⟨9, _, TX9, 40, s88_61, rfl⟩) ⟨Nat.le_of_ble_eq_true rfl, Nat.le_of_ble_eq_true rfl⟩ w_384 (Nat.le_of_ble_eq_true rfl) (fun u2 hu2 hcu2 hzu2 => ?_)
    refine sr_if_eq (pc' := 26) (tgt := 28) dX9_roadLine_23 rfl rfl (fun c23 => ?_) (fun c23 => ?_)
    · exact mod_roadLine_28_s μ
    · refine sr_iconst (pc' := 27) dX9_roadLine_26 rfl (by decide) ?_
      exact sr_iretI dX9_roadLine_27 rfl rfl
def mod_lineNow_130 (μ : Mem)  : Option (Int) := (mod_roadLine μ).bind fun u1 => some u1
theorem mod_lineNow_130_s {l : Launch} {G : Nv}   (μ : Mem)   : SR l G S88 mX9_lineNow (mod_lineNow_130 μ) (jI μ) 130 [some (vR 61)] [] μ := by
  unfold mod_lineNow_130
  refine sr_aload_n (i := 0) (pc' := 131) dX9_lineNow_130 rfl rfl rfl ?_
  refine sr_callV0_I (pc' := 134) (mod_roadLine_sp μ) dX9_lineNow_131 rfl mg_X9_roadLine mi_X9_roadLine (Or.inl ⟨9, _, TX9, 40, s88_61, rfl⟩) ⟨Nat.le_of_ble_eq_true rfl, Nat.le_of_ble_eq_true rfl⟩ w_387 (Nat.le_of_ble_eq_true rfl) (fun u1 hu1 hcu1 hzu1 => ?_)
  exact sr_iretI dX9_lineNow_134 rfl rfl
def mod_lineNow_100 (μ : Mem)  : Option (Int) := (mod_is μ 4 99 111 115).bind fun u1 => if u1 = 0 then (mod_lineNow_130 μ) else ((mod_ends μ 116 0 0).bind fun u2 => if u2 = 0 then (mod_lineNow_130 μ) else (some 8))
theorem mod_lineNow_100_s {l : Launch} {G : Nv}   (μ : Mem)   : SR l G S88 mX9_lineNow (mod_lineNow_100 μ) (jI μ) 100 [some (vR 61)] [] μ := by
  unfold mod_lineNow_100
  refine sr_aload_n (i := 0) (pc' := 101) dX9_lineNow_100 rfl rfl rfl ?_
  refine sr_iconst (pc' := 102) dX9_lineNow_101 rfl (by decide) ?_
  refine sr_bipush (pc' := 104) dX9_lineNow_102 rfl (by decide) (by decide) ?_
  refine sr_bipush (pc' := 106) dX9_lineNow_104 rfl (by decide) (by decide) ?_
  refine sr_bipush (pc' := 108) dX9_lineNow_106 rfl (by decide) (by decide) ?_
  refine sr_callV4_I (pc' := 111) (mod_is_sp 4 99 111 115 μ) dX9_lineNow_108 rfl mg_X9_is mi_X9_is (Or.inl ⟨9, _, TX9, 40, s88_61, rfl⟩) ⟨Nat.le_of_ble_eq_true rfl, Nat.le_of_ble_eq_true rfl⟩ w_383 (Nat.le_of_ble_eq_true rfl) (fun u1 hu1 hcu1 hzu1 => ?_)
  refine sr_if_eq (pc' := 114) (tgt := 130) dX9_lineNow_111 rfl rfl (fun c111 => ?_) (fun c111 => ?_)
  · exact mod_lineNow_130_s μ
  · refine sr_aload_n (i := 0) (pc' := 115) dX9_lineNow_114 rfl rfl rfl ?_
    refine sr_bipush (pc' := 117) dX9_lineNow_115 rfl (by decide) (by decide) ?_
    refine sr_iconst (pc' := 118) dX9_lineNow_117 rfl (by decide) ?_
    refine sr_iconst (pc' := 119) dX9_lineNow_118 rfl (by decide) ?_
    refine sr_callV3_I (pc' := 122) (mod_ends_sp 116 0 0 μ) dX9_lineNow_119 rfl mg_X9_ends mi_X9_ends (Or.inl ⟨9, _, TX9, 40, s88_61, rfl⟩) ⟨Nat.le_of_ble_eq_true rfl, Nat.le_of_ble_eq_true rfl⟩ w_384 (Nat.le_of_ble_eq_true rfl) (fun u2 hu2 hcu2 hzu2 => ?_)
    refine sr_if_eq (pc' := 125) (tgt := 130) dX9_lineNow_122 rfl rfl (fun c122 => ?_) (fun c122 => ?_)
    · exact mod_lineNow_130_s μ
    · refine sr_bipush (pc' := 127) dX9_lineNow_125 rfl (by decide) (by decide) ?_
      refine sr_goto (pc' := 134) dX9_lineNow_127 rfl ?_
      exact sr_iretI dX9_lineNow_134 rfl rfl
def mod_lineNow_72 (μ : Mem)  : Option (Int) := (mod_is μ 4 99 97 114).bind fun u1 => if u1 = 0 then (mod_lineNow_100 μ) else ((mod_ends μ 116 0 0).bind fun u2 => if u2 = 0 then (mod_lineNow_100 μ) else (some 7))
theorem mod_lineNow_72_s {l : Launch} {G : Nv}   (μ : Mem)   : SR l G S88 mX9_lineNow (mod_lineNow_72 μ) (jI μ) 72 [some (vR 61)] [] μ := by
  unfold mod_lineNow_72
  refine sr_aload_n (i := 0) (pc' := 73) dX9_lineNow_72 rfl rfl rfl ?_
  refine sr_iconst (pc' := 74) dX9_lineNow_73 rfl (by decide) ?_
  refine sr_bipush (pc' := 76) dX9_lineNow_74 rfl (by decide) (by decide) ?_
  refine sr_bipush (pc' := 78) dX9_lineNow_76 rfl (by decide) (by decide) ?_
  refine sr_bipush (pc' := 80) dX9_lineNow_78 rfl (by decide) (by decide) ?_
  refine sr_callV4_I (pc' := 83) (mod_is_sp 4 99 97 114 μ) dX9_lineNow_80 rfl mg_X9_is mi_X9_is (Or.inl ⟨9, _, TX9, 40, s88_61, rfl⟩) ⟨Nat.le_of_ble_eq_true rfl, Nat.le_of_ble_eq_true rfl⟩ w_383 (Nat.le_of_ble_eq_true rfl) (fun u1 hu1 hcu1 hzu1 => ?_)
  refine sr_if_eq (pc' := 86) (tgt := 100) dX9_lineNow_83 rfl rfl (fun c83 => ?_) (fun c83 => ?_)
  · exact mod_lineNow_100_s μ
  · refine sr_aload_n (i := 0) (pc' := 87) dX9_lineNow_86 rfl rfl rfl ?_
    refine sr_bipush (pc' := 89) dX9_lineNow_87 rfl (by decide) (by decide) ?_
    refine sr_iconst (pc' := 90) dX9_lineNow_89 rfl (by decide) ?_
    refine sr_iconst (pc' := 91) dX9_lineNow_90 rfl (by decide) ?_
    refine sr_callV3_I (pc' := 94) (mod_ends_sp 116 0 0 μ) dX9_lineNow_91 rfl mg_X9_ends mi_X9_ends (Or.inl ⟨9, _, TX9, 40, s88_61, rfl⟩) ⟨Nat.le_of_ble_eq_true rfl, Nat.le_of_ble_eq_true rfl⟩ w_384 (Nat.le_of_ble_eq_true rfl) (fun u2 hu2 hcu2 hzu2 => ?_)
    refine sr_if_eq (pc' := 97) (tgt := 100) dX9_lineNow_94 rfl rfl (fun c94 => ?_) (fun c94 => ?_)
    · exact mod_lineNow_100_s μ
    · refine sr_bipush (pc' := 99) dX9_lineNow_97 rfl (by decide) (by decide) ?_
      exact sr_iretI dX9_lineNow_99 rfl rfl
def mod_lineNow_27 (μ : Mem)  : Option (Int) := (mod_is μ 3 114 117 116).bind fun u1 => if u1 = 0 then ((mod_is μ 5 102 114 111).bind fun u2 => if u2 = 0 then (mod_lineNow_72 μ) else ((mod_ends μ 115 116 0).bind fun u3 => if u3 = 0 then (mod_lineNow_72 μ) else (some 6))) else (some 5)
theorem mod_lineNow_27_s {l : Launch} {G : Nv}   (μ : Mem)   : SR l G S88 mX9_lineNow (mod_lineNow_27 μ) (jI μ) 27 [some (vR 61)] [] μ := by
  unfold mod_lineNow_27
  refine sr_aload_n (i := 0) (pc' := 28) dX9_lineNow_27 rfl rfl rfl ?_
  refine sr_iconst (pc' := 29) dX9_lineNow_28 rfl (by decide) ?_
  refine sr_bipush (pc' := 31) dX9_lineNow_29 rfl (by decide) (by decide) ?_
  refine sr_bipush (pc' := 33) dX9_lineNow_31 rfl (by decide) (by decide) ?_
  refine sr_bipush (pc' := 35) dX9_lineNow_33 rfl (by decide) (by decide) ?_
  refine sr_callV4_I (pc' := 38) (mod_is_sp 3 114 117 116 μ) dX9_lineNow_35 rfl mg_X9_is mi_X9_is (Or.inl ⟨9, _, TX9, 40, s88_61, rfl⟩) ⟨Nat.le_of_ble_eq_true rfl, Nat.le_of_ble_eq_true rfl⟩ w_383 (Nat.le_of_ble_eq_true rfl) (fun u1 hu1 hcu1 hzu1 => ?_)
  refine sr_if_eq (pc' := 41) (tgt := 43) dX9_lineNow_38 rfl rfl (fun c38 => ?_) (fun c38 => ?_)
  · refine sr_aload_n (i := 0) (pc' := 44) dX9_lineNow_43 rfl rfl rfl ?_
    refine sr_iconst (pc' := 45) dX9_lineNow_44 rfl (by decide) ?_
    refine sr_bipush (pc' := 47) dX9_lineNow_45 rfl (by decide) (by decide) ?_
    refine sr_bipush (pc' := 49) dX9_lineNow_47 rfl (by decide) (by decide) ?_
    refine sr_bipush (pc' := 51) dX9_lineNow_49 rfl (by decide) (by decide) ?_
    refine sr_callV4_I (pc' := 54) (mod_is_sp 5 102 114 111 μ) dX9_lineNow_51 rfl mg_X9_is mi_X9_is (Or.inl ⟨9, _, TX9, 40, s88_61, rfl⟩) ⟨Nat.le_of_ble_eq_true rfl, Nat.le_of_ble_eq_true rfl⟩ w_383 (Nat.le_of_ble_eq_true rfl) (fun u2 hu2 hcu2 hzu2 => ?_)
    refine sr_if_eq (pc' := 57) (tgt := 72) dX9_lineNow_54 rfl rfl (fun c54 => ?_) (fun c54 => ?_)
    · exact mod_lineNow_72_s μ
    · refine sr_aload_n (i := 0) (pc' := 58) dX9_lineNow_57 rfl rfl rfl ?_
      refine sr_bipush (pc' := 60) dX9_lineNow_58 rfl (by decide) (by decide) ?_
      refine sr_bipush (pc' := 62) dX9_lineNow_60 rfl (by decide) (by decide) ?_
      refine sr_iconst (pc' := 63) dX9_lineNow_62 rfl (by decide) ?_
      refine sr_callV3_I (pc' := 66) (mod_ends_sp 115 116 0 μ) dX9_lineNow_63 rfl mg_X9_ends mi_X9_ends (Or.inl ⟨9, _, TX9, 40, s88_61, rfl⟩) ⟨Nat.le_of_ble_eq_true rfl, Nat.le_of_ble_eq_true rfl⟩ w_384 (Nat.le_of_ble_eq_true rfl) (fun u3 hu3 hcu3 hzu3 => ?_)
      refine sr_if_eq (pc' := 69) (tgt := 72) dX9_lineNow_66 rfl rfl (fun c66 => ?_) (fun c66 => ?_)
      · exact mod_lineNow_72_s μ
      · refine sr_bipush (pc' := 71) dX9_lineNow_69 rfl (by decide) (by decide) ?_
        exact sr_iretI dX9_lineNow_71 rfl rfl
  · refine sr_iconst (pc' := 42) dX9_lineNow_41 rfl (by decide) ?_
    exact sr_iretI dX9_lineNow_42 rfl rfl
def mod_lineNow (μ : Mem)  : Option (Int) := (mod_is μ 4 116 111 108).bind fun u1 => if u1 = 0 then (mod_lineNow_27 μ) else ((mod_ends μ 108 0 0).bind fun u2 => if u2 = 0 then (mod_lineNow_27 μ) else (some 4))
theorem mod_lineNow_sp {l : Launch} {G : Nv}   (μ : Mem) : SP l G S88 mX9_lineNow [vR 61] μ (mod_lineNow μ) (jI μ) := by
  refine sp_go (lv := [some (vR 61)]) pn_X9 (Nat.le_of_ble_eq_true rfl) rfl ?_
  unfold mod_lineNow
  refine sr_aload_n (i := 0) (pc' := 1) dX9_lineNow_0 rfl rfl rfl ?_
  refine sr_iconst (pc' := 2) dX9_lineNow_1 rfl (by decide) ?_
  refine sr_bipush (pc' := 4) dX9_lineNow_2 rfl (by decide) (by decide) ?_
  refine sr_bipush (pc' := 6) dX9_lineNow_4 rfl (by decide) (by decide) ?_
  refine sr_bipush (pc' := 8) dX9_lineNow_6 rfl (by decide) (by decide) ?_
  refine sr_callV4_I (pc' := 11) (mod_is_sp 4 116 111 108 μ) dX9_lineNow_8 rfl mg_X9_is mi_X9_is (Or.inl ⟨9, _, TX9, 40, s88_61, rfl⟩) ⟨Nat.le_of_ble_eq_true rfl, Nat.le_of_ble_eq_true rfl⟩ w_383 (Nat.le_of_ble_eq_true rfl) (fun u1 hu1 hcu1 hzu1 => ?_)
  refine sr_if_eq (pc' := 14) (tgt := 27) dX9_lineNow_11 rfl rfl (fun c11 => ?_) (fun c11 => ?_)
  · exact mod_lineNow_27_s μ
  · refine sr_aload_n (i := 0) (pc' := 15) dX9_lineNow_14 rfl rfl rfl ?_
    refine sr_bipush (pc' := 17) dX9_lineNow_15 rfl (by decide) (by decide) ?_
    refine sr_iconst (pc' := 18) dX9_lineNow_17 rfl (by decide) ?_
    refine sr_iconst (pc' := 19) dX9_lineNow_18 rfl (by decide) ?_
    refine sr_callV3_I (pc' := 22) (mod_ends_sp 108 0 0 μ) dX9_lineNow_19 rfl mg_X9_ends mi_X9_ends (Or.inl ⟨9, _, TX9, 40, s88_61, rfl⟩) ⟨Nat.le_of_ble_eq_true rfl, Nat.le_of_ble_eq_true rfl⟩ w_384 (Nat.le_of_ble_eq_true rfl) (fun u2 hu2 hcu2 hzu2 => ?_)
    refine sr_if_eq (pc' := 25) (tgt := 27) dX9_lineNow_22 rfl rfl (fun c22 => ?_) (fun c22 => ?_)
    · exact mod_lineNow_27_s μ
    · refine sr_iconst (pc' := 26) dX9_lineNow_25 rfl (by decide) ?_
      exact sr_iretI dX9_lineNow_26 rfl rfl
def mod_load   (x1 x2 : Int) (μ : Mem) : Option (Int × Mem) := (mod_isCart μ x1).bind fun u1 => if u1 = 0 then (some ((-1), μ)) else ((mod_in μ x2 1 9).bind fun u2 => if u2 = 0 then (some ((-1), μ)) else ((mod_of μ x1 2).bind fun u3 => (stx μ 62 555 (wI ((wI (1 + (wI (7 * x1)))) + 2)) x2).bind fun μ4 => some (u3, μ4)))
theorem mod_load_sp {l : Launch} {G : Nv}   (x1 x2 : Int) (μ : Mem) : SP l G S88 mX9_load [vR 61, vI x1, vI x2] μ (mod_load x1 x2 μ) jIM := by
  refine sp_go (lv := [some (vR 61), some (vI x1), some (vI x2), none]) pn_X9 (Nat.le_of_ble_eq_true rfl) rfl ?_
  unfold mod_load
  refine sr_aload_n (i := 0) (pc' := 1) dX9_load_0 rfl rfl rfl ?_
  refine sr_iload_n (i := 1) (pc' := 2) dX9_load_1 rfl rfl rfl ?_
  refine sr_callV1_I (pc' := 5) (mod_isCart_sp x1 μ) dX9_load_2 rfl mg_X9_isCart mi_X9_isCart (Or.inl ⟨9, _, TX9, 40, s88_61, rfl⟩) ⟨Nat.le_of_ble_eq_true rfl, Nat.le_of_ble_eq_true rfl⟩ w_345 (Nat.le_of_ble_eq_true rfl) (fun u1 hu1 hcu1 hzu1 => ?_)
  refine sr_if_eq (pc' := 8) (tgt := 20) dX9_load_5 rfl rfl (fun c5 => ?_) (fun c5 => ?_)
  · refine sr_iconst (pc' := 21) dX9_load_20 rfl (by decide) ?_
    exact sr_iretI dX9_load_21 rfl rfl
  · refine sr_iload_n (i := 2) (pc' := 9) dX9_load_8 rfl rfl rfl ?_
    refine sr_i2l (pc' := 10) dX9_load_9 rfl ?_
    refine sr_lconst (x := 1) (pc' := 11) dX9_load_10 rfl (by decide) rfl ?_
    refine sr_ldc2 (x := 9) (pc' := 14) dX9_load_11 rfl (by decide) w_388 ?_
    refine sr_callS3_I (pc' := 17) (mod_in_sp x2 1 9 μ) dX9_load_14 rfl mg_X9_in ms_X9_in ⟨Nat.le_of_ble_eq_true rfl, Nat.le_of_ble_eq_true rfl⟩ w_336 (Nat.le_of_ble_eq_true rfl) (fun u2 hu2 hcu2 hzu2 => ?_)
    refine sr_if_ne (pc' := 20) (tgt := 22) dX9_load_17 rfl rfl (fun c17 => ?_) (fun c17 => ?_)
    · refine sr_iconst (pc' := 21) dX9_load_20 rfl (by decide) ?_
      exact sr_iretI dX9_load_21 rfl rfl
    · refine sr_aload_n (i := 0) (pc' := 23) dX9_load_22 rfl rfl rfl ?_
      refine sr_iload_n (i := 1) (pc' := 24) dX9_load_23 rfl rfl rfl ?_
      refine sr_iconst (pc' := 25) dX9_load_24 rfl (by decide) ?_
      refine sr_callV2_I (pc' := 28) (mod_of_sp x1 2 μ) dX9_load_25 rfl mg_X9_of mi_X9_of (Or.inl ⟨9, _, TX9, 40, s88_61, rfl⟩) ⟨Nat.le_of_ble_eq_true rfl, Nat.le_of_ble_eq_true rfl⟩ w_314 (Nat.le_of_ble_eq_true rfl) (fun u3 hu3 hcu3 hzu3 => ?_)
      refine sr_istore_n (i := 3) (lv' := [some (vR 61), some (vI x1), some (vI x2), some (vI u3)]) (pc' := 29) dX9_load_28 rfl rfl (by decide) rfl ?_
      refine sr_aload_n (i := 0) (pc' := 30) dX9_load_29 rfl rfl rfl ?_
      refine sr_getR (k := 0) (b := 62) (pc' := 33) cls_X9 dX9_load_30 rfl s88_61 rfl (by decide) w_311 ?_
      refine sr_iconst (pc' := 34) dX9_load_33 rfl (by decide) ?_
      refine sr_bipush (pc' := 36) dX9_load_34 rfl (by decide) (by decide) ?_
      refine sr_iload_n (i := 1) (pc' := 37) dX9_load_36 rfl rfl rfl ?_
      refine sr_imul (pc' := 38) dX9_load_37 rfl ?_
      refine sr_iadd (pc' := 39) dX9_load_38 rfl ?_
      refine sr_iconst (pc' := 40) dX9_load_39 rfl (by decide) ?_
      refine sr_iadd (pc' := 41) dX9_load_40 rfl ?_
      refine sr_iload_n (i := 2) (pc' := 42) dX9_load_41 rfl rfl rfl ?_
      refine sr_iast (pc' := 43) dX9_load_42 rfl s88_62 (by decide) (fun μ4 hμ4 hμ4a hμ4b => ?_)
      refine sr_iload_n (i := 3) (pc' := 44) dX9_load_43 rfl rfl rfl ?_
      exact sr_iretI dX9_load_44 rfl rfl
def mod_needs   (x1 x2 : Int) (μ : Mem) : Option (Mem) := if x1 = 0 then (if (μ 61 23) = 0 then (bnd (mset μ 61 23 x2) fun μ1 => bnd (mset μ1 61 24 (μ1 61 20)) fun μ2 => some μ2) else (some μ)) else (some μ)
theorem mod_needs_sp {l : Launch} {G : Nv}   (x1 x2 : Int) (μ : Mem) : SP l G S88 mX9_needs [vR 61, vI x1, vI x2] μ (mod_needs x1 x2 μ) jM := by
  refine sp_go (lv := [some (vR 61), some (vI x1), some (vI x2)]) pn_X9 (Nat.le_of_ble_eq_true rfl) rfl ?_
  unfold mod_needs
  refine sr_iload_n (i := 1) (pc' := 1) dX9_needs_0 rfl rfl rfl ?_
  refine sr_if_ne (pc' := 4) (tgt := 24) dX9_needs_1 rfl rfl (fun c1 => ?_) (fun c1 => ?_)
  · refine sr_aload_n (i := 0) (pc' := 5) dX9_needs_4 rfl rfl rfl ?_
    refine sr_getI (k := 23) (pc' := 8) cls_X9 dX9_needs_5 rfl s88_61 rfl (by decide) w_360 ?_
    refine sr_if_ne (pc' := 11) (tgt := 24) dX9_needs_8 rfl rfl (fun c8 => ?_) (fun c8 => ?_)
    · refine sr_aload_n (i := 0) (pc' := 12) dX9_needs_11 rfl rfl rfl ?_
      refine sr_iload_n (i := 2) (pc' := 13) dX9_needs_12 rfl rfl rfl ?_
      refine sr_putI (k := 23) (pc' := 16) cls_X9 dX9_needs_13 rfl s88_61 rfl (by decide) w_360 rfl rfl (fun μ1 hμ1 => ?_)
      refine sr_aload_n (i := 0) (pc' := 17) dX9_needs_16 rfl rfl rfl ?_
      refine sr_aload_n (i := 0) (pc' := 18) dX9_needs_17 rfl rfl rfl ?_
      refine sr_getI (k := 20) (pc' := 21) cls_X9 dX9_needs_18 rfl s88_61 rfl (by decide) w_358 ?_
      refine sr_putI (k := 24) (pc' := 24) cls_X9 dX9_needs_21 rfl s88_61 rfl (by decide) w_389 rfl rfl (fun μ2 hμ2 => ?_)
      exact sr_ret dX9_needs_24 rfl rfl
    · exact sr_ret dX9_needs_24 rfl rfl
  · exact sr_ret dX9_needs_24 rfl rfl
def mod_looked_21  (k25 : Int → Int → Mem → Option (Int × Mem)) (x1 x2 s1 : Int) (μ : Mem) : Option (Int × Mem) := (mod_needs s1 2 μ).bind fun μ1 => k25 x1 x2 μ1
theorem mod_looked_21_s {l : Launch} {G : Nv}   {k25 : Int → Int → Mem → Option (Int × Mem)} (hk25 : ∀ (x1 x2 : Int) (μ : Mem) , SR l G S88 mX9_looked (k25 x1 x2 μ) jIM 25 [some (vR 61), some (vI x1), some (vI x2)] [] μ) : ∀ (x1 x2 s1 : Int) (μ : Mem), SR l G S88 mX9_looked (mod_looked_21 k25 x1 x2 s1 μ) jIM 21 [some (vR 61), some (vI x1), some (vI x2)] [vI s1, vR 61] μ := by
  intro x1 x2 s1 μ
  unfold mod_looked_21
  refine sr_iconst (pc' := 22) dX9_looked_21 rfl (by decide) ?_
  refine sr_callV2_M (pc' := 25) (mod_needs_sp s1 2 μ) dX9_looked_22 rfl mg_X9_needs mi_X9_needs (Or.inl ⟨9, _, TX9, 40, s88_61, rfl⟩) ⟨Nat.le_of_ble_eq_true rfl, Nat.le_of_ble_eq_true rfl⟩ w_390 (Nat.le_of_ble_eq_true rfl) (fun μ1 hμ1 => ?_)
  exact hk25 x1 x2 μ1
def mod_looked_49   (μ : Mem) : Option (Int × Mem) := if (μ 61 23) = 0 then (some (μ 61 22, μ)) else (some (0, μ))
theorem mod_looked_49_s {l : Launch} {G : Nv}     : ∀ (μ : Mem), SR l G S88 mX9_looked (mod_looked_49 μ) jIM 49 [some (vR 61), none, none] [] μ := by
  intro μ
  unfold mod_looked_49
  refine sr_aload_n (i := 0) (pc' := 50) dX9_looked_49 rfl rfl rfl ?_
  refine sr_getI (k := 23) (pc' := 53) cls_X9 dX9_looked_50 rfl s88_61 rfl (by decide) w_360 ?_
  refine sr_if_ne (pc' := 56) (tgt := 63) dX9_looked_53 rfl rfl (fun c53 => ?_) (fun c53 => ?_)
  · refine sr_aload_n (i := 0) (pc' := 57) dX9_looked_56 rfl rfl rfl ?_
    refine sr_getI (k := 22) (pc' := 60) cls_X9 dX9_looked_57 rfl s88_61 rfl (by decide) w_391 ?_
    refine sr_goto (pc' := 64) dX9_looked_60 rfl ?_
    exact sr_iretI dX9_looked_64 rfl rfl
  · refine sr_iconst (pc' := 64) dX9_looked_63 rfl (by decide) ?_
    exact sr_iretI dX9_looked_64 rfl rfl
def mod_looked_25   (x1 x2 : Int) (μ : Mem) : Option (Int × Mem) := if (μ 61 23) = 0 then ((mod_in μ (μ 61 22) x1 x2).bind fun u1 => (mod_needs u1 3 μ).bind fun μ2 => mod_looked_49 μ2) else (mod_looked_49 μ)
theorem mod_looked_25_s {l : Launch} {G : Nv}     : ∀ (x1 x2 : Int) (μ : Mem), SR l G S88 mX9_looked (mod_looked_25 x1 x2 μ) jIM 25 [some (vR 61), some (vI x1), some (vI x2)] [] μ := by
  intro x1 x2 μ
  unfold mod_looked_25
  refine sr_aload_n (i := 0) (pc' := 26) dX9_looked_25 rfl rfl rfl ?_
  refine sr_getI (k := 23) (pc' := 29) cls_X9 dX9_looked_26 rfl s88_61 rfl (by decide) w_360 ?_
  refine sr_if_ne (pc' := 32) (tgt := 49) dX9_looked_29 rfl rfl (fun c29 => ?_) (fun c29 => ?_)
  · refine sr_aload_n (i := 0) (pc' := 33) dX9_looked_32 rfl rfl rfl ?_
    refine sr_aload_n (i := 0) (pc' := 34) dX9_looked_33 rfl rfl rfl ?_
    refine sr_getI (k := 22) (pc' := 37) cls_X9 dX9_looked_34 rfl s88_61 rfl (by decide) w_391 ?_
    refine sr_i2l (pc' := 38) dX9_looked_37 rfl ?_
    refine sr_iload_n (i := 1) (pc' := 39) dX9_looked_38 rfl rfl rfl ?_
    refine sr_i2l (pc' := 40) dX9_looked_39 rfl ?_
    refine sr_iload_n (i := 2) (pc' := 41) dX9_looked_40 rfl rfl rfl ?_
    refine sr_i2l (pc' := 42) dX9_looked_41 rfl ?_
    refine sr_callS3_I (pc' := 45) (mod_in_sp (μ 61 22) x1 x2 μ) dX9_looked_42 rfl mg_X9_in ms_X9_in ⟨Nat.le_of_ble_eq_true rfl, Nat.le_of_ble_eq_true rfl⟩ w_336 (Nat.le_of_ble_eq_true rfl) (fun u1 hu1 hcu1 hzu1 => ?_)
    refine sr_iconst (pc' := 46) dX9_looked_45 rfl (by decide) ?_
    refine sr_callV2_M (pc' := 49) (mod_needs_sp u1 3 μ) dX9_looked_46 rfl mg_X9_needs mi_X9_needs (Or.inl ⟨9, _, TX9, 40, s88_61, rfl⟩) ⟨Nat.le_of_ble_eq_true rfl, Nat.le_of_ble_eq_true rfl⟩ w_390 (Nat.le_of_ble_eq_true rfl) (fun μ2 hμ2 => ?_)
    refine sr_fgt (fgt_s (fgt_n (fgt_n fgt_nil))) ?_
    exact mod_looked_49_s μ2
  · refine sr_fgt (fgt_s (fgt_n (fgt_n fgt_nil))) ?_
    exact mod_looked_49_s μ
def mod_looked   (x1 x2 : Int) (μ : Mem) : Option (Int × Mem) := if (μ 61 23) = 0 then (if (μ 61 21) = 2 then (mod_looked_21 mod_looked_25 x1 x2 1 μ) else (mod_looked_21 mod_looked_25 x1 x2 0 μ)) else (mod_looked_25 x1 x2 μ)
theorem mod_looked_sp {l : Launch} {G : Nv}   (x1 x2 : Int) (μ : Mem) : SP l G S88 mX9_looked [vR 61, vI x1, vI x2] μ (mod_looked x1 x2 μ) jIM := by
  refine sp_go (lv := [some (vR 61), some (vI x1), some (vI x2)]) pn_X9 (Nat.le_of_ble_eq_true rfl) rfl ?_
  unfold mod_looked
  refine sr_aload_n (i := 0) (pc' := 1) dX9_looked_0 rfl rfl rfl ?_
  refine sr_getI (k := 23) (pc' := 4) cls_X9 dX9_looked_1 rfl s88_61 rfl (by decide) w_360 ?_
  refine sr_if_ne (pc' := 7) (tgt := 25) dX9_looked_4 rfl rfl (fun c4 => ?_) (fun c4 => ?_)
  · refine sr_aload_n (i := 0) (pc' := 8) dX9_looked_7 rfl rfl rfl ?_
    refine sr_aload_n (i := 0) (pc' := 9) dX9_looked_8 rfl rfl rfl ?_
    refine sr_getI (k := 21) (pc' := 12) cls_X9 dX9_looked_9 rfl s88_61 rfl (by decide) w_392 ?_
    refine sr_iconst (pc' := 13) dX9_looked_12 rfl (by decide) ?_
    refine sr_icmp_ne (pc' := 16) (tgt := 20) dX9_looked_13 rfl rfl (fun c13 => ?_) (fun c13 => ?_)
    · refine sr_iconst (pc' := 17) dX9_looked_16 rfl (by decide) ?_
      refine sr_goto (pc' := 21) dX9_looked_17 rfl ?_
      exact mod_looked_21_s mod_looked_25_s x1 x2 1 μ
    · refine sr_iconst (pc' := 21) dX9_looked_20 rfl (by decide) ?_
      exact mod_looked_21_s mod_looked_25_s x1 x2 0 μ
  · exact mod_looked_25_s x1 x2 μ
def mod_lookedYard_25   (x1 s1 : Int) (μ : Mem) : Option (Int × Mem) := bnd (mset μ 61 16 s1) fun μ1 => some (x1, μ1)
theorem mod_lookedYard_25_s {l : Launch} {G : Nv}     : ∀ (x1 s1 : Int) (μ : Mem), SR l G S88 mX9_lookedYard (mod_lookedYard_25 x1 s1 μ) jIM 25 [none, some (vI x1)] [vI s1, vR 61] μ := by
  intro x1 s1 μ
  unfold mod_lookedYard_25
  refine sr_putI (k := 16) (pc' := 28) cls_X9 dX9_lookedYard_25 rfl s88_61 rfl (by decide) w_374 rfl rfl (fun μ1 hμ1 => ?_)
  refine sr_iload_n (i := 1) (pc' := 29) dX9_lookedYard_28 rfl rfl rfl ?_
  exact sr_iretI dX9_lookedYard_29 rfl rfl
def mod_lookedYard   (μ : Mem) : Option (Int × Mem) := (mod_looked 0 20 μ).bind fun u1 => if u1.1 ≤ (u1.2 61 16) then (mod_lookedYard_25 u1.1 (u1.2 61 16) u1.2) else (mod_lookedYard_25 u1.1 u1.1 u1.2)
theorem mod_lookedYard_sp {l : Launch} {G : Nv}   (μ : Mem) : SP l G S88 mX9_lookedYard [vR 61] μ (mod_lookedYard μ) jIM := by
  refine sp_go (lv := [some (vR 61), none]) pn_X9 (Nat.le_of_ble_eq_true rfl) rfl ?_
  unfold mod_lookedYard
  refine sr_aload_n (i := 0) (pc' := 1) dX9_lookedYard_0 rfl rfl rfl ?_
  refine sr_iconst (pc' := 2) dX9_lookedYard_1 rfl (by decide) ?_
  refine sr_bipush (pc' := 4) dX9_lookedYard_2 rfl (by decide) (by decide) ?_
  refine sr_callV2_IM (pc' := 7) (mod_looked_sp 0 20 μ) dX9_lookedYard_4 rfl mg_X9_looked mi_X9_looked (Or.inl ⟨9, _, TX9, 40, s88_61, rfl⟩) ⟨Nat.le_of_ble_eq_true rfl, Nat.le_of_ble_eq_true rfl⟩ w_393 (Nat.le_of_ble_eq_true rfl) (fun u1 hu1 hcu1 hzu1 => ?_)
  refine sr_istore_n (i := 1) (lv' := [some (vR 61), some (vI u1.1)]) (pc' := 8) dX9_lookedYard_7 rfl rfl (by decide) rfl ?_
  refine sr_aload_n (i := 0) (pc' := 9) dX9_lookedYard_8 rfl rfl rfl ?_
  refine sr_iload_n (i := 1) (pc' := 10) dX9_lookedYard_9 rfl rfl rfl ?_
  refine sr_aload_n (i := 0) (pc' := 11) dX9_lookedYard_10 rfl rfl rfl ?_
  refine sr_getI (k := 16) (pc' := 14) cls_X9 dX9_lookedYard_11 rfl s88_61 rfl (by decide) w_374 ?_
  refine sr_icmp_le (pc' := 17) (tgt := 21) dX9_lookedYard_14 rfl rfl (fun c14 => ?_) (fun c14 => ?_)
  · refine sr_aload_n (i := 0) (pc' := 22) dX9_lookedYard_21 rfl rfl rfl ?_
    refine sr_getI (k := 16) (pc' := 25) cls_X9 dX9_lookedYard_22 rfl s88_61 rfl (by decide) w_374 ?_
    refine sr_fgt (fgt_n (fgt_s fgt_nil)) ?_
    exact mod_lookedYard_25_s u1.1 (u1.2 61 16) u1.2
  · refine sr_iload_n (i := 1) (pc' := 18) dX9_lookedYard_17 rfl rfl rfl ?_
    refine sr_goto (pc' := 25) dX9_lookedYard_18 rfl ?_
    refine sr_fgt (fgt_n (fgt_s fgt_nil)) ?_
    exact mod_lookedYard_25_s u1.1 u1.1 u1.2
def mod_mend_95  (k83 : Int → Int → Mem → Option (Int × Mem)) : Nat → Int → Int → Int → Mem → Option (Int × Mem)
  | 0, _, _, _, _ => none
  | n + 1, x1, x2, x3, μ => if (μ 61 2) < x3 then (k83 x1 (wI (x2 + 1)) μ) else ((mod_areDoneBy x2 x3 μ).bind fun u1 => if u1.1 = 0 then (mod_mend_95 k83 n x1 x2 (wI (x3 + 1)) u1.2) else (if x1 = 0 then (some (2, u1.2)) else (if x1 = 1 then (some (x2, u1.2)) else (some (x3, u1.2)))))
theorem mod_mend_95_s {l : Launch} {G : Nv}   {k83 : Int → Int → Mem → Option (Int × Mem)} (hk83 : ∀ (x1 x2 : Int) (μ : Mem) , SR l G S88 mX9_mend (k83 x1 x2 μ) jIM 83 [some (vR 61), some (vI x1), some (vI x2), none] [] μ) : ∀ (n : Nat) (x1 x2 x3 : Int) (μ : Mem), SR l G S88 mX9_mend (mod_mend_95 k83 n x1 x2 x3 μ) jIM 95 [some (vR 61), some (vI x1), some (vI x2), some (vI x3)] [] μ := by
  intro n
  induction n with
  | zero => intro x1 x2 x3 μ; exact sr_none
  | succ n ih =>
    intro x1 x2 x3 μ
    rw [mod_mend_95.eq_2]
    refine sr_iload_n (i := 3) (pc' := 96) dX9_mend_95 rfl rfl rfl ?_
    refine sr_aload_n (i := 0) (pc' := 97) dX9_mend_96 rfl rfl rfl ?_
    refine sr_getI (k := 2) (pc' := 100) cls_X9 dX9_mend_97 rfl s88_61 rfl (by decide) w_339 ?_
    refine sr_icmp_gt (pc' := 103) (tgt := 137) dX9_mend_100 rfl rfl (fun c100 => ?_) (fun c100 => ?_)
    · refine sr_iinc (lv' := [some (vR 61), some (vI x1), some (vI (wI (x2 + 1))), some (vI x3)]) (pc' := 140) dX9_mend_137 rfl (by decide) rfl rfl ?_
      refine sr_goto (pc' := 83) dX9_mend_140 rfl ?_
      refine sr_fgt (fgt_s (fgt_s (fgt_s (fgt_n fgt_nil)))) ?_
      exact hk83 x1 (wI (x2 + 1)) μ
    · refine sr_aload_n (i := 0) (pc' := 104) dX9_mend_103 rfl rfl rfl ?_
      refine sr_iload_n (i := 2) (pc' := 105) dX9_mend_104 rfl rfl rfl ?_
      refine sr_iload_n (i := 3) (pc' := 106) dX9_mend_105 rfl rfl rfl ?_
      refine sr_callV2_IM (pc' := 109) (mod_areDoneBy_sp x2 x3 μ) dX9_mend_106 rfl mg_X9_areDoneBy mi_X9_areDoneBy (Or.inl ⟨9, _, TX9, 40, s88_61, rfl⟩) ⟨Nat.le_of_ble_eq_true rfl, Nat.le_of_ble_eq_true rfl⟩ w_394 (Nat.le_of_ble_eq_true rfl) (fun u1 hu1 hcu1 hzu1 => ?_)
      refine sr_if_eq (pc' := 112) (tgt := 131) dX9_mend_109 rfl rfl (fun c109 => ?_) (fun c109 => ?_)
      · refine sr_iinc (lv' := [some (vR 61), some (vI x1), some (vI x2), some (vI (wI (x3 + 1)))]) (pc' := 134) dX9_mend_131 rfl (by decide) rfl rfl ?_
        refine sr_goto (pc' := 95) dX9_mend_134 rfl ?_
        exact ih x1 x2 (wI (x3 + 1)) u1.2
      · refine sr_iload_n (i := 1) (pc' := 113) dX9_mend_112 rfl rfl rfl ?_
        refine sr_if_ne (pc' := 116) (tgt := 120) dX9_mend_113 rfl rfl (fun c113 => ?_) (fun c113 => ?_)
        · refine sr_iconst (pc' := 117) dX9_mend_116 rfl (by decide) ?_
          refine sr_goto (pc' := 130) dX9_mend_117 rfl ?_
          exact sr_iretI dX9_mend_130 rfl rfl
        · refine sr_iload_n (i := 1) (pc' := 121) dX9_mend_120 rfl rfl rfl ?_
          refine sr_iconst (pc' := 122) dX9_mend_121 rfl (by decide) ?_
          refine sr_icmp_ne (pc' := 125) (tgt := 129) dX9_mend_122 rfl rfl (fun c122 => ?_) (fun c122 => ?_)
          · refine sr_iload_n (i := 2) (pc' := 126) dX9_mend_125 rfl rfl rfl ?_
            refine sr_goto (pc' := 130) dX9_mend_126 rfl ?_
            exact sr_iretI dX9_mend_130 rfl rfl
          · refine sr_iload_n (i := 3) (pc' := 130) dX9_mend_129 rfl rfl rfl ?_
            exact sr_iretI dX9_mend_130 rfl rfl
def mod_mend_83   : Nat → Int → Int → Mem → Option (Int × Mem)
  | 0, _, _, _ => none
  | n + 1, x1, x2, μ => if (μ 61 2) < x2 then (some ((-4), μ)) else (bnd (wI (x2 + 1)) fun v1 => mod_mend_95 (mod_mend_83 n) BIG x1 x2 v1 μ)
theorem mod_mend_83_s {l : Launch} {G : Nv}     : ∀ (n : Nat) (x1 x2 : Int) (μ : Mem), SR l G S88 mX9_mend (mod_mend_83 n x1 x2 μ) jIM 83 [some (vR 61), some (vI x1), some (vI x2), none] [] μ := by
  intro n
  induction n with
  | zero => intro x1 x2 μ; exact sr_none
  | succ n ih =>
    intro x1 x2 μ
    rw [mod_mend_83.eq_2]
    refine sr_iload_n (i := 2) (pc' := 84) dX9_mend_83 rfl rfl rfl ?_
    refine sr_aload_n (i := 0) (pc' := 85) dX9_mend_84 rfl rfl rfl ?_
    refine sr_getI (k := 2) (pc' := 88) cls_X9 dX9_mend_85 rfl s88_61 rfl (by decide) w_339 ?_
    refine sr_icmp_gt (pc' := 91) (tgt := 143) dX9_mend_88 rfl rfl (fun c88 => ?_) (fun c88 => ?_)
    · refine sr_bipush (pc' := 145) dX9_mend_143 rfl (by decide) (by decide) ?_
      exact sr_iretI dX9_mend_145 rfl rfl
    · refine sr_iload_n (i := 2) (pc' := 92) dX9_mend_91 rfl rfl rfl ?_
      refine sr_iconst (pc' := 93) dX9_mend_92 rfl (by decide) ?_
      refine sr_iadd (pc' := 94) dX9_mend_93 rfl ?_
      refine sr_bnd (fun v1 hv1 => ?_)
      refine sr_istore_n (i := 3) (lv' := [some (vR 61), some (vI x1), some (vI x2), some (vI v1)]) (pc' := 95) dX9_mend_94 rfl rfl (by decide) rfl ?_
      exact mod_mend_95_s ih BIG x1 x2 v1 μ
def mod_mend_38   : Nat → Int → Int → Mem → Option (Int × Mem)
  | 0, _, _, _ => none
  | n + 1, x1, x2, μ => if (μ 61 2) < x2 then (mod_mend_83 BIG x1 0 μ) else ((mod_areDoneBy x2 x2 μ).bind fun u1 => if u1.1 = 0 then (mod_mend_38 n x1 (wI (x2 + 1)) u1.2) else (if x1 = 0 then (some (1, u1.2)) else (if x1 = 1 then (some (x2, u1.2)) else (some ((-4), u1.2)))))
theorem mod_mend_38_s {l : Launch} {G : Nv}     : ∀ (n : Nat) (x1 x2 : Int) (μ : Mem), SR l G S88 mX9_mend (mod_mend_38 n x1 x2 μ) jIM 38 [some (vR 61), some (vI x1), some (vI x2), none] [] μ := by
  intro n
  induction n with
  | zero => intro x1 x2 μ; exact sr_none
  | succ n ih =>
    intro x1 x2 μ
    rw [mod_mend_38.eq_2]
    refine sr_iload_n (i := 2) (pc' := 39) dX9_mend_38 rfl rfl rfl ?_
    refine sr_aload_n (i := 0) (pc' := 40) dX9_mend_39 rfl rfl rfl ?_
    refine sr_getI (k := 2) (pc' := 43) cls_X9 dX9_mend_40 rfl s88_61 rfl (by decide) w_339 ?_
    refine sr_icmp_gt (pc' := 46) (tgt := 81) dX9_mend_43 rfl rfl (fun c43 => ?_) (fun c43 => ?_)
    · refine sr_iconst (pc' := 82) dX9_mend_81 rfl (by decide) ?_
      refine sr_istore_n (i := 2) (lv' := [some (vR 61), some (vI x1), some (vI 0), none]) (pc' := 83) dX9_mend_82 rfl rfl (by decide) rfl ?_
      exact mod_mend_83_s BIG x1 0 μ
    · refine sr_aload_n (i := 0) (pc' := 47) dX9_mend_46 rfl rfl rfl ?_
      refine sr_iload_n (i := 2) (pc' := 48) dX9_mend_47 rfl rfl rfl ?_
      refine sr_iload_n (i := 2) (pc' := 49) dX9_mend_48 rfl rfl rfl ?_
      refine sr_callV2_IM (pc' := 52) (mod_areDoneBy_sp x2 x2 μ) dX9_mend_49 rfl mg_X9_areDoneBy mi_X9_areDoneBy (Or.inl ⟨9, _, TX9, 40, s88_61, rfl⟩) ⟨Nat.le_of_ble_eq_true rfl, Nat.le_of_ble_eq_true rfl⟩ w_394 (Nat.le_of_ble_eq_true rfl) (fun u1 hu1 hcu1 hzu1 => ?_)
      refine sr_if_eq (pc' := 55) (tgt := 75) dX9_mend_52 rfl rfl (fun c52 => ?_) (fun c52 => ?_)
      · refine sr_iinc (lv' := [some (vR 61), some (vI x1), some (vI (wI (x2 + 1))), none]) (pc' := 78) dX9_mend_75 rfl (by decide) rfl rfl ?_
        refine sr_goto (pc' := 38) dX9_mend_78 rfl ?_
        exact ih x1 (wI (x2 + 1)) u1.2
      · refine sr_iload_n (i := 1) (pc' := 56) dX9_mend_55 rfl rfl rfl ?_
        refine sr_if_ne (pc' := 59) (tgt := 63) dX9_mend_56 rfl rfl (fun c56 => ?_) (fun c56 => ?_)
        · refine sr_iconst (pc' := 60) dX9_mend_59 rfl (by decide) ?_
          refine sr_goto (pc' := 74) dX9_mend_60 rfl ?_
          exact sr_iretI dX9_mend_74 rfl rfl
        · refine sr_iload_n (i := 1) (pc' := 64) dX9_mend_63 rfl rfl rfl ?_
          refine sr_iconst (pc' := 65) dX9_mend_64 rfl (by decide) ?_
          refine sr_icmp_ne (pc' := 68) (tgt := 72) dX9_mend_65 rfl rfl (fun c65 => ?_) (fun c65 => ?_)
          · refine sr_iload_n (i := 2) (pc' := 69) dX9_mend_68 rfl rfl rfl ?_
            refine sr_goto (pc' := 74) dX9_mend_69 rfl ?_
            exact sr_iretI dX9_mend_74 rfl rfl
          · refine sr_bipush (pc' := 74) dX9_mend_72 rfl (by decide) (by decide) ?_
            exact sr_iretI dX9_mend_74 rfl rfl
def mod_mend   (x1 : Int) (μ : Mem) : Option (Int × Mem) := (mod_in μ x1 0 2).bind fun u1 => if u1 = 0 then (some ((-1), μ)) else ((mod_byNumbers μ).bind fun μ2 => (mod_areDone μ2).bind fun u3 => if u3.1 = 0 then (mod_mend_38 BIG x1 0 u3.2) else (if x1 = 0 then (some (0, u3.2)) else (some ((-4), u3.2))))
theorem mod_mend_sp {l : Launch} {G : Nv}   (x1 : Int) (μ : Mem) : SP l G S88 mX9_mend [vR 61, vI x1] μ (mod_mend x1 μ) jIM := by
  refine sp_go (lv := [some (vR 61), some (vI x1), none, none]) pn_X9 (Nat.le_of_ble_eq_true rfl) rfl ?_
  unfold mod_mend
  refine sr_iload_n (i := 1) (pc' := 1) dX9_mend_0 rfl rfl rfl ?_
  refine sr_i2l (pc' := 2) dX9_mend_1 rfl ?_
  refine sr_lconst (x := 0) (pc' := 3) dX9_mend_2 rfl (by decide) rfl ?_
  refine sr_ldc2 (x := 2) (pc' := 6) dX9_mend_3 rfl (by decide) w_354 ?_
  refine sr_callS3_I (pc' := 9) (mod_in_sp x1 0 2 μ) dX9_mend_6 rfl mg_X9_in ms_X9_in ⟨Nat.le_of_ble_eq_true rfl, Nat.le_of_ble_eq_true rfl⟩ w_336 (Nat.le_of_ble_eq_true rfl) (fun u1 hu1 hcu1 hzu1 => ?_)
  refine sr_if_ne (pc' := 12) (tgt := 14) dX9_mend_9 rfl rfl (fun c9 => ?_) (fun c9 => ?_)
  · refine sr_iconst (pc' := 13) dX9_mend_12 rfl (by decide) ?_
    exact sr_iretI dX9_mend_13 rfl rfl
  · refine sr_aload_n (i := 0) (pc' := 15) dX9_mend_14 rfl rfl rfl ?_
    refine sr_callV0_M (pc' := 18) (mod_byNumbers_sp μ) dX9_mend_15 rfl mg_X9_byNumbers mi_X9_byNumbers (Or.inl ⟨9, _, TX9, 40, s88_61, rfl⟩) ⟨Nat.le_of_ble_eq_true rfl, Nat.le_of_ble_eq_true rfl⟩ w_353 (Nat.le_of_ble_eq_true rfl) (fun μ2 hμ2 => ?_)
    refine sr_aload_n (i := 0) (pc' := 19) dX9_mend_18 rfl rfl rfl ?_
    refine sr_callV0_IM (pc' := 22) (mod_areDone_sp μ2) dX9_mend_19 rfl mg_X9_areDone mi_X9_areDone (Or.inl ⟨9, _, TX9, 40, s88_61, rfl⟩) ⟨Nat.le_of_ble_eq_true rfl, Nat.le_of_ble_eq_true rfl⟩ w_332 (Nat.le_of_ble_eq_true rfl) (fun u3 hu3 hcu3 hzu3 => ?_)
    refine sr_if_eq (pc' := 25) (tgt := 36) dX9_mend_22 rfl rfl (fun c22 => ?_) (fun c22 => ?_)
    · refine sr_iconst (pc' := 37) dX9_mend_36 rfl (by decide) ?_
      refine sr_istore_n (i := 2) (lv' := [some (vR 61), some (vI x1), some (vI 0), none]) (pc' := 38) dX9_mend_37 rfl rfl (by decide) rfl ?_
      exact mod_mend_38_s BIG x1 0 u3.2
    · refine sr_iload_n (i := 1) (pc' := 26) dX9_mend_25 rfl rfl rfl ?_
      refine sr_if_ne (pc' := 29) (tgt := 33) dX9_mend_26 rfl rfl (fun c26 => ?_) (fun c26 => ?_)
      · refine sr_iconst (pc' := 30) dX9_mend_29 rfl (by decide) ?_
        refine sr_goto (pc' := 35) dX9_mend_30 rfl ?_
        exact sr_iretI dX9_mend_35 rfl rfl
      · refine sr_bipush (pc' := 35) dX9_mend_33 rfl (by decide) (by decide) ?_
        exact sr_iretI dX9_mend_35 rfl rfl
