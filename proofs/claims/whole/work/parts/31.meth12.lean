def mod_where   (x1 x2 : Int) (μ : Mem) : Option (Int × Mem) := (mod_isCart μ x1).bind fun u1 => if u1 = 0 then (some ((-1), μ)) else ((mod_isTime μ x2).bind fun u2 => if u2 = 0 then (some ((-1), μ)) else ((mod_byNumbers μ).bind fun μ3 => (mod_runs x2 μ3).bind fun μ4 => (ld μ4 75 5 x1).bind fun v5 => some (v5, μ4)))
theorem mod_where_sp {l : Launch} {G : Nv}   (x1 x2 : Int) (μ : Mem) : SP l G S88 mX9_where [vR 61, vI x1, vI x2] μ (mod_where x1 x2 μ) jIM := by
  refine sp_go (lv := [some (vR 61), some (vI x1), some (vI x2)]) pn_X9 (Nat.le_of_ble_eq_true rfl) rfl ?_
  unfold mod_where
  refine sr_aload_n (i := 0) (pc' := 1) dX9_where_0 rfl rfl rfl ?_
  refine sr_iload_n (i := 1) (pc' := 2) dX9_where_1 rfl rfl rfl ?_
  refine sr_callV1_I (pc' := 5) (mod_isCart_sp x1 μ) dX9_where_2 rfl mg_X9_isCart mi_X9_isCart (Or.inl ⟨9, _, TX9, 40, s88_61, rfl⟩) ⟨Nat.le_of_ble_eq_true rfl, Nat.le_of_ble_eq_true rfl⟩ w_345 (Nat.le_of_ble_eq_true rfl) (fun u1 hu1 hcu1 hzu1 => ?_)
  refine sr_if_eq (pc' := 8) (tgt := 15) dX9_where_5 rfl rfl (fun c5 => ?_) (fun c5 => ?_)
  · refine sr_iconst (pc' := 16) dX9_where_15 rfl (by decide) ?_
    exact sr_iretI dX9_where_16 rfl rfl
  · refine sr_iload_n (i := 2) (pc' := 9) dX9_where_8 rfl rfl rfl ?_
    refine sr_callS1_I (pc' := 12) (mod_isTime_sp x2 μ) dX9_where_9 rfl mg_X9_isTime ms_X9_isTime ⟨Nat.le_of_ble_eq_true rfl, Nat.le_of_ble_eq_true rfl⟩ w_352 (Nat.le_of_ble_eq_true rfl) (fun u2 hu2 hcu2 hzu2 => ?_)
    refine sr_if_ne (pc' := 15) (tgt := 17) dX9_where_12 rfl rfl (fun c12 => ?_) (fun c12 => ?_)
    · refine sr_iconst (pc' := 16) dX9_where_15 rfl (by decide) ?_
      exact sr_iretI dX9_where_16 rfl rfl
    · refine sr_aload_n (i := 0) (pc' := 18) dX9_where_17 rfl rfl rfl ?_
      refine sr_callV0_M (pc' := 21) (mod_byNumbers_sp μ) dX9_where_18 rfl mg_X9_byNumbers mi_X9_byNumbers (Or.inl ⟨9, _, TX9, 40, s88_61, rfl⟩) ⟨Nat.le_of_ble_eq_true rfl, Nat.le_of_ble_eq_true rfl⟩ w_353 (Nat.le_of_ble_eq_true rfl) (fun μ3 hμ3 => ?_)
      refine sr_aload_n (i := 0) (pc' := 22) dX9_where_21 rfl rfl rfl ?_
      refine sr_iload_n (i := 2) (pc' := 23) dX9_where_22 rfl rfl rfl ?_
      refine sr_callV1_M (pc' := 26) (mod_runs_sp x2 μ3) dX9_where_23 rfl mg_X9_runs mi_X9_runs (Or.inl ⟨9, _, TX9, 40, s88_61, rfl⟩) ⟨Nat.le_of_ble_eq_true rfl, Nat.le_of_ble_eq_true rfl⟩ w_328 (Nat.le_of_ble_eq_true rfl) (fun μ4 hμ4 => ?_)
      refine sr_aload_n (i := 0) (pc' := 27) dX9_where_26 rfl rfl rfl ?_
      refine sr_getR (k := 25) (b := 75) (pc' := 30) cls_X9 dX9_where_27 rfl s88_61 rfl (by decide) w_313 ?_
      refine sr_iload_n (i := 1) (pc' := 31) dX9_where_30 rfl rfl rfl ?_
      refine sr_iald (pc' := 32) dX9_where_31 rfl s88_75 (by decide) (fun v5 hv5 hv5a hv5b => ?_)
      exact sr_iretI dX9_where_32 rfl rfl
def mod_whose_57  (k18 : Int → Int → Int → Mem → Option (Int × Mem)) (x1 s0 s1 : Int) (μ : Mem) : Option (Int × Mem) := bnd (iOr s0 s1) fun v1 => (mod_nextOrder μ).bind fun u2 => k18 x1 v1 u2.1 u2.2
theorem mod_whose_57_s {l : Launch} {G : Nv}   {k18 : Int → Int → Int → Mem → Option (Int × Mem)} (hk18 : ∀ (x1 x2 x3 : Int) (μ : Mem) , SR l G S88 mX9_whose (k18 x1 x2 x3 μ) jIM 18 [some (vR 61), some (vI x1), some (vI x2), some (vI x3), none] [] μ) : ∀ (x1 s0 s1 : Int) (μ : Mem), SR l G S88 mX9_whose (mod_whose_57 k18 x1 s0 s1 μ) jIM 57 [some (vR 61), some (vI x1), none, none, none] [vI s1, vI s0] μ := by
  intro x1 s0 s1 μ
  unfold mod_whose_57
  refine sr_ior (pc' := 58) dX9_whose_57 rfl ?_
  refine sr_bnd (fun v1 hv1 => ?_)
  refine sr_istore_n (i := 2) (lv' := [some (vR 61), some (vI x1), some (vI v1), none, none]) (pc' := 59) dX9_whose_58 rfl rfl (by decide) rfl ?_
  refine sr_aload_n (i := 0) (pc' := 60) dX9_whose_59 rfl rfl rfl ?_
  refine sr_callV0_IM (pc' := 63) (mod_nextOrder_sp μ) dX9_whose_60 rfl mg_X9_nextOrder mi_X9_nextOrder (Or.inl ⟨9, _, TX9, 40, s88_61, rfl⟩) ⟨Nat.le_of_ble_eq_true rfl, Nat.le_of_ble_eq_true rfl⟩ w_401 (Nat.le_of_ble_eq_true rfl) (fun u2 hu2 hcu2 hzu2 => ?_)
  refine sr_istore_n (i := 3) (lv' := [some (vR 61), some (vI x1), some (vI v1), some (vI u2.1), none]) (pc' := 64) dX9_whose_63 rfl rfl (by decide) rfl ?_
  refine sr_goto (pc' := 18) dX9_whose_64 rfl ?_
  exact hk18 x1 v1 u2.1 u2.2
def mod_whose_39  (k18 : Int → Int → Int → Mem → Option (Int × Mem)) (x1 x2 s0 : Int) (μ : Mem) : Option (Int × Mem) := if s0 = (-4) then (mod_whose_57 k18 x1 x2 0 μ) else (mod_whose_57 k18 x1 x2 (iShl 1 s0) μ)
theorem mod_whose_39_s {l : Launch} {G : Nv}   {k18 : Int → Int → Int → Mem → Option (Int × Mem)} (hk18 : ∀ (x1 x2 x3 : Int) (μ : Mem) , SR l G S88 mX9_whose (k18 x1 x2 x3 μ) jIM 18 [some (vR 61), some (vI x1), some (vI x2), some (vI x3), none] [] μ) : ∀ (x1 x2 s0 : Int) (μ : Mem), SR l G S88 mX9_whose (mod_whose_39 k18 x1 x2 s0 μ) jIM 39 [some (vR 61), some (vI x1), some (vI x2), none, none] [vI s0] μ := by
  intro x1 x2 s0 μ
  unfold mod_whose_39
  refine sr_istore (lv' := [some (vR 61), some (vI x1), some (vI x2), none, some (vI s0)]) (pc' := 41) dX9_whose_39 rfl (by decide) rfl ?_
  refine sr_iload_n (i := 2) (pc' := 42) dX9_whose_41 rfl rfl rfl ?_
  refine sr_iload (pc' := 44) dX9_whose_42 rfl rfl ?_
  refine sr_bipush (pc' := 46) dX9_whose_44 rfl (by decide) (by decide) ?_
  refine sr_icmp_ne (pc' := 49) (tgt := 53) dX9_whose_46 rfl rfl (fun c46 => ?_) (fun c46 => ?_)
  · refine sr_iconst (pc' := 50) dX9_whose_49 rfl (by decide) ?_
    refine sr_goto (pc' := 57) dX9_whose_50 rfl ?_
    refine sr_fgt (fgt_s (fgt_s (fgt_n (fgt_s (fgt_n fgt_nil))))) ?_
    exact mod_whose_57_s hk18 x1 x2 0 μ
  · refine sr_iconst (pc' := 54) dX9_whose_53 rfl (by decide) ?_
    refine sr_iload (pc' := 56) dX9_whose_54 rfl rfl ?_
    refine sr_ishl (pc' := 57) dX9_whose_56 rfl ?_
    refine sr_fgt (fgt_s (fgt_s (fgt_n (fgt_s (fgt_n fgt_nil))))) ?_
    exact mod_whose_57_s hk18 x1 x2 (iShl 1 s0) μ
def mod_whose_18   : Nat → Int → Int → Int → Mem → Option (Int × Mem)
  | 0, _, _, _, _ => none
  | n + 1, x1, x2, x3, μ => if x3 = 0 then (some (x2, μ)) else ((mod_isFit μ).bind fun u1 => if u1 = 0 then (mod_whose_39 (mod_whose_18 n) x1 x2 (-4) μ) else ((mod_lastTo μ x1).bind fun u2 => mod_whose_39 (mod_whose_18 n) x1 x2 u2 μ))
theorem mod_whose_18_s {l : Launch} {G : Nv}     : ∀ (n : Nat) (x1 x2 x3 : Int) (μ : Mem), SR l G S88 mX9_whose (mod_whose_18 n x1 x2 x3 μ) jIM 18 [some (vR 61), some (vI x1), some (vI x2), some (vI x3), none] [] μ := by
  intro n
  induction n with
  | zero => intro x1 x2 x3 μ; exact sr_none
  | succ n ih =>
    intro x1 x2 x3 μ
    rw [mod_whose_18.eq_2]
    refine sr_iload_n (i := 3) (pc' := 19) dX9_whose_18 rfl rfl rfl ?_
    refine sr_if_eq (pc' := 22) (tgt := 67) dX9_whose_19 rfl rfl (fun c19 => ?_) (fun c19 => ?_)
    · refine sr_iload_n (i := 2) (pc' := 68) dX9_whose_67 rfl rfl rfl ?_
      exact sr_iretI dX9_whose_68 rfl rfl
    · refine sr_aload_n (i := 0) (pc' := 23) dX9_whose_22 rfl rfl rfl ?_
      refine sr_callV0_I (pc' := 26) (mod_isFit_sp μ) dX9_whose_23 rfl mg_X9_isFit mi_X9_isFit (Or.inl ⟨9, _, TX9, 40, s88_61, rfl⟩) ⟨Nat.le_of_ble_eq_true rfl, Nat.le_of_ble_eq_true rfl⟩ w_402 (Nat.le_of_ble_eq_true rfl) (fun u1 hu1 hcu1 hzu1 => ?_)
      refine sr_if_eq (pc' := 29) (tgt := 37) dX9_whose_26 rfl rfl (fun c26 => ?_) (fun c26 => ?_)
      · refine sr_bipush (pc' := 39) dX9_whose_37 rfl (by decide) (by decide) ?_
        refine sr_fgt (fgt_s (fgt_s (fgt_s (fgt_n (fgt_s fgt_nil))))) ?_
        exact mod_whose_39_s ih x1 x2 (-4) μ
      · refine sr_aload_n (i := 0) (pc' := 30) dX9_whose_29 rfl rfl rfl ?_
        refine sr_iload_n (i := 1) (pc' := 31) dX9_whose_30 rfl rfl rfl ?_
        refine sr_callV1_I (pc' := 34) (mod_lastTo_sp x1 μ) dX9_whose_31 rfl mg_X9_lastTo mi_X9_lastTo (Or.inl ⟨9, _, TX9, 40, s88_61, rfl⟩) ⟨Nat.le_of_ble_eq_true rfl, Nat.le_of_ble_eq_true rfl⟩ w_381 (Nat.le_of_ble_eq_true rfl) (fun u2 hu2 hcu2 hzu2 => ?_)
        refine sr_goto (pc' := 39) dX9_whose_34 rfl ?_
        refine sr_fgt (fgt_s (fgt_s (fgt_s (fgt_n (fgt_s fgt_nil))))) ?_
        exact mod_whose_39_s ih x1 x2 u2 μ
def mod_whose   (x1 : Int) (μ : Mem) : Option (Int × Mem) := (mod_isYard μ x1).bind fun u1 => if u1 = 0 then (some ((-1), μ)) else ((mod_byNumbers μ).bind fun μ2 => mod_whose_18 BIG x1 0 1 μ2)
theorem mod_whose_sp {l : Launch} {G : Nv}   (x1 : Int) (μ : Mem) : SP l G S88 mX9_whose [vR 61, vI x1] μ (mod_whose x1 μ) jIM := by
  refine sp_go (lv := [some (vR 61), some (vI x1), none, none, none]) pn_X9 (Nat.le_of_ble_eq_true rfl) rfl ?_
  unfold mod_whose
  refine sr_aload_n (i := 0) (pc' := 1) dX9_whose_0 rfl rfl rfl ?_
  refine sr_iload_n (i := 1) (pc' := 2) dX9_whose_1 rfl rfl rfl ?_
  refine sr_callV1_I (pc' := 5) (mod_isYard_sp x1 μ) dX9_whose_2 rfl mg_X9_isYard mi_X9_isYard (Or.inl ⟨9, _, TX9, 40, s88_61, rfl⟩) ⟨Nat.le_of_ble_eq_true rfl, Nat.le_of_ble_eq_true rfl⟩ w_340 (Nat.le_of_ble_eq_true rfl) (fun u1 hu1 hcu1 hzu1 => ?_)
  refine sr_if_ne (pc' := 8) (tgt := 10) dX9_whose_5 rfl rfl (fun c5 => ?_) (fun c5 => ?_)
  · refine sr_iconst (pc' := 9) dX9_whose_8 rfl (by decide) ?_
    exact sr_iretI dX9_whose_9 rfl rfl
  · refine sr_iconst (pc' := 11) dX9_whose_10 rfl (by decide) ?_
    refine sr_istore_n (i := 2) (lv' := [some (vR 61), some (vI x1), some (vI 0), none, none]) (pc' := 12) dX9_whose_11 rfl rfl (by decide) rfl ?_
    refine sr_aload_n (i := 0) (pc' := 13) dX9_whose_12 rfl rfl rfl ?_
    refine sr_callV0_M (pc' := 16) (mod_byNumbers_sp μ) dX9_whose_13 rfl mg_X9_byNumbers mi_X9_byNumbers (Or.inl ⟨9, _, TX9, 40, s88_61, rfl⟩) ⟨Nat.le_of_ble_eq_true rfl, Nat.le_of_ble_eq_true rfl⟩ w_353 (Nat.le_of_ble_eq_true rfl) (fun μ2 hμ2 => ?_)
    refine sr_iconst (pc' := 17) dX9_whose_16 rfl (by decide) ?_
    refine sr_istore_n (i := 3) (lv' := [some (vR 61), some (vI x1), some (vI 0), some (vI 1), none]) (pc' := 18) dX9_whose_17 rfl rfl (by decide) rfl ?_
    exact mod_whose_18_s BIG x1 0 1 μ2
def mod_yard (μ : Mem)  (x1 x2 : Int) : Option (Int) := (mod_isYard μ x1).bind fun u1 => if u1 = 0 then (some (-1)) else (if x2 = 0 then ((ld μ 65 21 x1).bind fun v2 => if v2 = (-4) then (some 7) else ((ld μ 65 21 x1).bind fun v3 => some (iShl 1 v3))) else if x2 = 1 then ((ld μ 64 21 x1).bind fun v4 => (mod_flag μ v4).bind fun u5 => some u5) else if x2 = 2 then ((ld μ 66 21 x1).bind fun v6 => some v6) else if x2 = 10 then ((mod_hasRut μ x1 (wI (x2 - 10))).bind fun u7 => if u7 = 0 then (some (-4)) else ((ld μ 62 555 (wI ((wI ((wI (36 + (wI (3 * x1)))) + x2)) - 10))).bind fun v8 => some v8)) else if x2 = 11 then ((mod_hasRut μ x1 (wI (x2 - 10))).bind fun u9 => if u9 = 0 then (some (-4)) else ((ld μ 62 555 (wI ((wI ((wI (36 + (wI (3 * x1)))) + x2)) - 10))).bind fun v10 => some v10)) else if x2 = 12 then ((mod_hasRut μ x1 (wI (x2 - 10))).bind fun u11 => if u11 = 0 then (some (-4)) else ((ld μ 62 555 (wI ((wI ((wI (36 + (wI (3 * x1)))) + x2)) - 10))).bind fun v12 => some v12)) else if x2 = 20 then ((ld μ 67 63 (wI ((wI ((wI (3 * x1)) + x2)) - 20))).bind fun v13 => some v13) else if x2 = 21 then ((ld μ 67 63 (wI ((wI ((wI (3 * x1)) + x2)) - 20))).bind fun v14 => some v14) else if x2 = 22 then ((ld μ 67 63 (wI ((wI ((wI (3 * x1)) + x2)) - 20))).bind fun v15 => some v15) else (some (-1)))
theorem mod_yard_sp {l : Launch} {G : Nv}   (x1 x2 : Int) (μ : Mem) : SP l G S88 mX9_yard [vR 61, vI x1, vI x2] μ (mod_yard μ x1 x2) (jI μ) := by
  refine sp_go (lv := [some (vR 61), some (vI x1), some (vI x2)]) pn_X9 (Nat.le_of_ble_eq_true rfl) rfl ?_
  unfold mod_yard
  refine sr_aload_n (i := 0) (pc' := 1) dX9_yard_0 rfl rfl rfl ?_
  refine sr_iload_n (i := 1) (pc' := 2) dX9_yard_1 rfl rfl rfl ?_
  refine sr_callV1_I (pc' := 5) (mod_isYard_sp x1 μ) dX9_yard_2 rfl mg_X9_isYard mi_X9_isYard (Or.inl ⟨9, _, TX9, 40, s88_61, rfl⟩) ⟨Nat.le_of_ble_eq_true rfl, Nat.le_of_ble_eq_true rfl⟩ w_340 (Nat.le_of_ble_eq_true rfl) (fun u1 hu1 hcu1 hzu1 => ?_)
  refine sr_if_ne (pc' := 8) (tgt := 10) dX9_yard_5 rfl rfl (fun c5 => ?_) (fun c5 => ?_)
  · refine sr_iconst (pc' := 9) dX9_yard_8 rfl (by decide) ?_
    exact sr_iretI dX9_yard_9 rfl rfl
  · refine sr_iload_n (i := 2) (pc' := 11) dX9_yard_10 rfl rfl rfl ?_
    refine sr_ite (fun c11_0 => ?_) (fun c11_0 => ?_)
    · refine sr_swIn (j := 0) (tgt := 116) dX9_yard_11 (by omega) (by omega) rfl rfl ?_
      refine sr_aload_n (i := 0) (pc' := 117) dX9_yard_116 rfl rfl rfl ?_
      refine sr_getR (k := 4) (b := 65) (pc' := 120) cls_X9 dX9_yard_117 rfl s88_61 rfl (by decide) w_318 ?_
      refine sr_iload_n (i := 1) (pc' := 121) dX9_yard_120 rfl rfl rfl ?_
      refine sr_iald (pc' := 122) dX9_yard_121 rfl s88_65 (by decide) (fun v2 hv2 hv2a hv2b => ?_)
      refine sr_bipush (pc' := 124) dX9_yard_122 rfl (by decide) (by decide) ?_
      refine sr_icmp_ne (pc' := 127) (tgt := 132) dX9_yard_124 rfl rfl (fun c124 => ?_) (fun c124 => ?_)
      · refine sr_bipush (pc' := 129) dX9_yard_127 rfl (by decide) (by decide) ?_
        refine sr_goto (pc' := 140) dX9_yard_129 rfl ?_
        exact sr_iretI dX9_yard_140 rfl rfl
      · refine sr_iconst (pc' := 133) dX9_yard_132 rfl (by decide) ?_
        refine sr_aload_n (i := 0) (pc' := 134) dX9_yard_133 rfl rfl rfl ?_
        refine sr_getR (k := 4) (b := 65) (pc' := 137) cls_X9 dX9_yard_134 rfl s88_61 rfl (by decide) w_318 ?_
        refine sr_iload_n (i := 1) (pc' := 138) dX9_yard_137 rfl rfl rfl ?_
        refine sr_iald (pc' := 139) dX9_yard_138 rfl s88_65 (by decide) (fun v3 hv3 hv3a hv3b => ?_)
        refine sr_ishl (pc' := 140) dX9_yard_139 rfl ?_
        exact sr_iretI dX9_yard_140 rfl rfl
    refine sr_ite (fun c11_1 => ?_) (fun c11_1 => ?_)
    · refine sr_swIn (j := 1) (tgt := 141) dX9_yard_11 (by omega) (by omega) rfl rfl ?_
      refine sr_aload_n (i := 0) (pc' := 142) dX9_yard_141 rfl rfl rfl ?_
      refine sr_getR (k := 3) (b := 64) (pc' := 145) cls_X9 dX9_yard_142 rfl s88_61 rfl (by decide) w_319 ?_
      refine sr_iload_n (i := 1) (pc' := 146) dX9_yard_145 rfl rfl rfl ?_
      refine sr_zald (pc' := 147) dX9_yard_146 rfl s88_64 (by decide) (fun v4 hv4 hv4a hv4b => ?_)
      refine sr_callS1_I (pc' := 150) (mod_flag_sp v4 μ) dX9_yard_147 rfl mg_X9_flag ms_X9_flag ⟨Nat.le_of_ble_eq_true rfl, Nat.le_of_ble_eq_true rfl⟩ w_344 (Nat.le_of_ble_eq_true rfl) (fun u5 hu5 hcu5 hzu5 => ?_)
      exact sr_iretI dX9_yard_150 rfl rfl
    refine sr_ite (fun c11_2 => ?_) (fun c11_2 => ?_)
    · refine sr_swIn (j := 2) (tgt := 151) dX9_yard_11 (by omega) (by omega) rfl rfl ?_
      refine sr_aload_n (i := 0) (pc' := 152) dX9_yard_151 rfl rfl rfl ?_
      refine sr_getR (k := 5) (b := 66) (pc' := 155) cls_X9 dX9_yard_152 rfl s88_61 rfl (by decide) w_341 ?_
      refine sr_iload_n (i := 1) (pc' := 156) dX9_yard_155 rfl rfl rfl ?_
      refine sr_iald (pc' := 157) dX9_yard_156 rfl s88_66 (by decide) (fun v6 hv6 hv6a hv6b => ?_)
      exact sr_iretI dX9_yard_157 rfl rfl
    refine sr_ite (fun c11_3 => ?_) (fun c11_3 => ?_)
    · refine sr_swIn (j := 10) (tgt := 158) dX9_yard_11 (by omega) (by omega) rfl rfl ?_
      refine sr_aload_n (i := 0) (pc' := 159) dX9_yard_158 rfl rfl rfl ?_
      refine sr_iload_n (i := 1) (pc' := 160) dX9_yard_159 rfl rfl rfl ?_
      refine sr_iload_n (i := 2) (pc' := 161) dX9_yard_160 rfl rfl rfl ?_
      refine sr_bipush (pc' := 163) dX9_yard_161 rfl (by decide) (by decide) ?_
      refine sr_isub (pc' := 164) dX9_yard_163 rfl ?_
      refine sr_callV2_I (pc' := 167) (mod_hasRut_sp x1 (wI (x2 - 10)) μ) dX9_yard_164 rfl mg_X9_hasRut mi_X9_hasRut (Or.inl ⟨9, _, TX9, 40, s88_61, rfl⟩) ⟨Nat.le_of_ble_eq_true rfl, Nat.le_of_ble_eq_true rfl⟩ w_323 (Nat.le_of_ble_eq_true rfl) (fun u7 hu7 hcu7 hzu7 => ?_)
      refine sr_if_eq (pc' := 170) (tgt := 189) dX9_yard_167 rfl rfl (fun c167 => ?_) (fun c167 => ?_)
      · refine sr_bipush (pc' := 191) dX9_yard_189 rfl (by decide) (by decide) ?_
        exact sr_iretI dX9_yard_191 rfl rfl
      · refine sr_aload_n (i := 0) (pc' := 171) dX9_yard_170 rfl rfl rfl ?_
        refine sr_getR (k := 0) (b := 62) (pc' := 174) cls_X9 dX9_yard_171 rfl s88_61 rfl (by decide) w_311 ?_
        refine sr_bipush (pc' := 176) dX9_yard_174 rfl (by decide) (by decide) ?_
        refine sr_iconst (pc' := 177) dX9_yard_176 rfl (by decide) ?_
        refine sr_iload_n (i := 1) (pc' := 178) dX9_yard_177 rfl rfl rfl ?_
        refine sr_imul (pc' := 179) dX9_yard_178 rfl ?_
        refine sr_iadd (pc' := 180) dX9_yard_179 rfl ?_
        refine sr_iload_n (i := 2) (pc' := 181) dX9_yard_180 rfl rfl rfl ?_
        refine sr_iadd (pc' := 182) dX9_yard_181 rfl ?_
        refine sr_bipush (pc' := 184) dX9_yard_182 rfl (by decide) (by decide) ?_
        refine sr_isub (pc' := 185) dX9_yard_184 rfl ?_
        refine sr_iald (pc' := 186) dX9_yard_185 rfl s88_62 (by decide) (fun v8 hv8 hv8a hv8b => ?_)
        refine sr_goto (pc' := 191) dX9_yard_186 rfl ?_
        exact sr_iretI dX9_yard_191 rfl rfl
    refine sr_ite (fun c11_4 => ?_) (fun c11_4 => ?_)
    · refine sr_swIn (j := 11) (tgt := 158) dX9_yard_11 (by omega) (by omega) rfl rfl ?_
      refine sr_aload_n (i := 0) (pc' := 159) dX9_yard_158 rfl rfl rfl ?_
      refine sr_iload_n (i := 1) (pc' := 160) dX9_yard_159 rfl rfl rfl ?_
      refine sr_iload_n (i := 2) (pc' := 161) dX9_yard_160 rfl rfl rfl ?_
      refine sr_bipush (pc' := 163) dX9_yard_161 rfl (by decide) (by decide) ?_
      refine sr_isub (pc' := 164) dX9_yard_163 rfl ?_
      refine sr_callV2_I (pc' := 167) (mod_hasRut_sp x1 (wI (x2 - 10)) μ) dX9_yard_164 rfl mg_X9_hasRut mi_X9_hasRut (Or.inl ⟨9, _, TX9, 40, s88_61, rfl⟩) ⟨Nat.le_of_ble_eq_true rfl, Nat.le_of_ble_eq_true rfl⟩ w_323 (Nat.le_of_ble_eq_true rfl) (fun u9 hu9 hcu9 hzu9 => ?_)
      refine sr_if_eq (pc' := 170) (tgt := 189) dX9_yard_167 rfl rfl (fun c167 => ?_) (fun c167 => ?_)
      · refine sr_bipush (pc' := 191) dX9_yard_189 rfl (by decide) (by decide) ?_
        exact sr_iretI dX9_yard_191 rfl rfl
      · refine sr_aload_n (i := 0) (pc' := 171) dX9_yard_170 rfl rfl rfl ?_
        refine sr_getR (k := 0) (b := 62) (pc' := 174) cls_X9 dX9_yard_171 rfl s88_61 rfl (by decide) w_311 ?_
        refine sr_bipush (pc' := 176) dX9_yard_174 rfl (by decide) (by decide) ?_
        refine sr_iconst (pc' := 177) dX9_yard_176 rfl (by decide) ?_
        refine sr_iload_n (i := 1) (pc' := 178) dX9_yard_177 rfl rfl rfl ?_
        refine sr_imul (pc' := 179) dX9_yard_178 rfl ?_
        refine sr_iadd (pc' := 180) dX9_yard_179 rfl ?_
        refine sr_iload_n (i := 2) (pc' := 181) dX9_yard_180 rfl rfl rfl ?_
        refine sr_iadd (pc' := 182) dX9_yard_181 rfl ?_
        refine sr_bipush (pc' := 184) dX9_yard_182 rfl (by decide) (by decide) ?_
        refine sr_isub (pc' := 185) dX9_yard_184 rfl ?_
        refine sr_iald (pc' := 186) dX9_yard_185 rfl s88_62 (by decide) (fun v10 hv10 hv10a hv10b => ?_)
        refine sr_goto (pc' := 191) dX9_yard_186 rfl ?_
        exact sr_iretI dX9_yard_191 rfl rfl
    refine sr_ite (fun c11_5 => ?_) (fun c11_5 => ?_)
    · refine sr_swIn (j := 12) (tgt := 158) dX9_yard_11 (by omega) (by omega) rfl rfl ?_
      refine sr_aload_n (i := 0) (pc' := 159) dX9_yard_158 rfl rfl rfl ?_
      refine sr_iload_n (i := 1) (pc' := 160) dX9_yard_159 rfl rfl rfl ?_
      refine sr_iload_n (i := 2) (pc' := 161) dX9_yard_160 rfl rfl rfl ?_
      refine sr_bipush (pc' := 163) dX9_yard_161 rfl (by decide) (by decide) ?_
      refine sr_isub (pc' := 164) dX9_yard_163 rfl ?_
      refine sr_callV2_I (pc' := 167) (mod_hasRut_sp x1 (wI (x2 - 10)) μ) dX9_yard_164 rfl mg_X9_hasRut mi_X9_hasRut (Or.inl ⟨9, _, TX9, 40, s88_61, rfl⟩) ⟨Nat.le_of_ble_eq_true rfl, Nat.le_of_ble_eq_true rfl⟩ w_323 (Nat.le_of_ble_eq_true rfl) (fun u11 hu11 hcu11 hzu11 => ?_)
      refine sr_if_eq (pc' := 170) (tgt := 189) dX9_yard_167 rfl rfl (fun c167 => ?_) (fun c167 => ?_)
      · refine sr_bipush (pc' := 191) dX9_yard_189 rfl (by decide) (by decide) ?_
        exact sr_iretI dX9_yard_191 rfl rfl
      · refine sr_aload_n (i := 0) (pc' := 171) dX9_yard_170 rfl rfl rfl ?_
        refine sr_getR (k := 0) (b := 62) (pc' := 174) cls_X9 dX9_yard_171 rfl s88_61 rfl (by decide) w_311 ?_
        refine sr_bipush (pc' := 176) dX9_yard_174 rfl (by decide) (by decide) ?_
        refine sr_iconst (pc' := 177) dX9_yard_176 rfl (by decide) ?_
        refine sr_iload_n (i := 1) (pc' := 178) dX9_yard_177 rfl rfl rfl ?_
        refine sr_imul (pc' := 179) dX9_yard_178 rfl ?_
        refine sr_iadd (pc' := 180) dX9_yard_179 rfl ?_
        refine sr_iload_n (i := 2) (pc' := 181) dX9_yard_180 rfl rfl rfl ?_
        refine sr_iadd (pc' := 182) dX9_yard_181 rfl ?_
        refine sr_bipush (pc' := 184) dX9_yard_182 rfl (by decide) (by decide) ?_
        refine sr_isub (pc' := 185) dX9_yard_184 rfl ?_
        refine sr_iald (pc' := 186) dX9_yard_185 rfl s88_62 (by decide) (fun v12 hv12 hv12a hv12b => ?_)
        refine sr_goto (pc' := 191) dX9_yard_186 rfl ?_
        exact sr_iretI dX9_yard_191 rfl rfl
    refine sr_ite (fun c11_6 => ?_) (fun c11_6 => ?_)
    · refine sr_swIn (j := 20) (tgt := 192) dX9_yard_11 (by omega) (by omega) rfl rfl ?_
      refine sr_aload_n (i := 0) (pc' := 193) dX9_yard_192 rfl rfl rfl ?_
      refine sr_getR (k := 6) (b := 67) (pc' := 196) cls_X9 dX9_yard_193 rfl s88_61 rfl (by decide) w_321 ?_
      refine sr_iconst (pc' := 197) dX9_yard_196 rfl (by decide) ?_
      refine sr_iload_n (i := 1) (pc' := 198) dX9_yard_197 rfl rfl rfl ?_
      refine sr_imul (pc' := 199) dX9_yard_198 rfl ?_
      refine sr_iload_n (i := 2) (pc' := 200) dX9_yard_199 rfl rfl rfl ?_
      refine sr_iadd (pc' := 201) dX9_yard_200 rfl ?_
      refine sr_bipush (pc' := 203) dX9_yard_201 rfl (by decide) (by decide) ?_
      refine sr_isub (pc' := 204) dX9_yard_203 rfl ?_
      refine sr_iald (pc' := 205) dX9_yard_204 rfl s88_67 (by decide) (fun v13 hv13 hv13a hv13b => ?_)
      exact sr_iretI dX9_yard_205 rfl rfl
    refine sr_ite (fun c11_7 => ?_) (fun c11_7 => ?_)
    · refine sr_swIn (j := 21) (tgt := 192) dX9_yard_11 (by omega) (by omega) rfl rfl ?_
      refine sr_aload_n (i := 0) (pc' := 193) dX9_yard_192 rfl rfl rfl ?_
      refine sr_getR (k := 6) (b := 67) (pc' := 196) cls_X9 dX9_yard_193 rfl s88_61 rfl (by decide) w_321 ?_
      refine sr_iconst (pc' := 197) dX9_yard_196 rfl (by decide) ?_
      refine sr_iload_n (i := 1) (pc' := 198) dX9_yard_197 rfl rfl rfl ?_
      refine sr_imul (pc' := 199) dX9_yard_198 rfl ?_
      refine sr_iload_n (i := 2) (pc' := 200) dX9_yard_199 rfl rfl rfl ?_
      refine sr_iadd (pc' := 201) dX9_yard_200 rfl ?_
      refine sr_bipush (pc' := 203) dX9_yard_201 rfl (by decide) (by decide) ?_
      refine sr_isub (pc' := 204) dX9_yard_203 rfl ?_
      refine sr_iald (pc' := 205) dX9_yard_204 rfl s88_67 (by decide) (fun v14 hv14 hv14a hv14b => ?_)
      exact sr_iretI dX9_yard_205 rfl rfl
    refine sr_ite (fun c11_8 => ?_) (fun c11_8 => ?_)
    · refine sr_swIn (j := 22) (tgt := 192) dX9_yard_11 (by omega) (by omega) rfl rfl ?_
      refine sr_aload_n (i := 0) (pc' := 193) dX9_yard_192 rfl rfl rfl ?_
      refine sr_getR (k := 6) (b := 67) (pc' := 196) cls_X9 dX9_yard_193 rfl s88_61 rfl (by decide) w_321 ?_
      refine sr_iconst (pc' := 197) dX9_yard_196 rfl (by decide) ?_
      refine sr_iload_n (i := 1) (pc' := 198) dX9_yard_197 rfl rfl rfl ?_
      refine sr_imul (pc' := 199) dX9_yard_198 rfl ?_
      refine sr_iload_n (i := 2) (pc' := 200) dX9_yard_199 rfl rfl rfl ?_
      refine sr_iadd (pc' := 201) dX9_yard_200 rfl ?_
      refine sr_bipush (pc' := 203) dX9_yard_201 rfl (by decide) (by decide) ?_
      refine sr_isub (pc' := 204) dX9_yard_203 rfl ?_
      refine sr_iald (pc' := 205) dX9_yard_204 rfl s88_67 (by decide) (fun v15 hv15 hv15a hv15b => ?_)
      exact sr_iretI dX9_yard_205 rfl rfl
    refine sr_swOut (tgt := 206) [0, 1, 2, 10, 11, 12, 20, 21, 22] dX9_yard_11 (by simp only [List.forall_mem_cons, List.not_mem_nil, false_implies, implies_true, and_true]; omega) (by decide) rfl ?_
    refine sr_iconst (pc' := 207) dX9_yard_206 rfl (by decide) ?_
    exact sr_iretI dX9_yard_207 rfl rfl
def mod_firstDraft0_55  (k24 : Int → Mem → Option (Mem)) : Nat → Int → Int → Mem → Option (Mem)
  | 0, _, _, _ => none
  | n + 1, x1, x2, μ => if 3 ≤ x2 then (k24 (wI (x1 + 1)) μ) else ((stx μ 11 63 (wI ((wI (3 * x1)) + x2)) 0).bind fun μ1 => (stx μ1 12 63 (wI ((wI (3 * x1)) + x2)) (zN 0)).bind fun μ2 => mod_firstDraft0_55 k24 n x1 (wI (x2 + 1)) μ2)
theorem mod_firstDraft0_55_s {l : Launch} {G : Nv}   {k24 : Int → Mem → Option (Mem)} (hk24 : ∀ (x1 : Int) (μ : Mem) , SR l G SM mX9_firstDraft (k24 x1 μ) jM 24 [some (vR 0), some (vI x1), none] [] μ) : ∀ (n : Nat) (x1 x2 : Int) (μ : Mem), SR l G SM mX9_firstDraft (mod_firstDraft0_55 k24 n x1 x2 μ) jM 55 [some (vR 0), some (vI x1), some (vI x2)] [] μ := by
  intro n
  induction n with
  | zero => intro x1 x2 μ; exact sr_none
  | succ n ih =>
    intro x1 x2 μ
    rw [mod_firstDraft0_55.eq_2]
    refine sr_iload_n (i := 2) (pc' := 56) dX9_firstDraft_55 rfl rfl rfl ?_
    refine sr_iconst (pc' := 57) dX9_firstDraft_56 rfl (by decide) ?_
    refine sr_icmp_ge (pc' := 60) (tgt := 88) dX9_firstDraft_57 rfl rfl (fun c57 => ?_) (fun c57 => ?_)
    · refine sr_iinc (lv' := [some (vR 0), some (vI (wI (x1 + 1))), some (vI x2)]) (pc' := 91) dX9_firstDraft_88 rfl (by decide) rfl rfl ?_
      refine sr_goto (pc' := 24) dX9_firstDraft_91 rfl ?_
      refine sr_fgt (fgt_s (fgt_s (fgt_n fgt_nil))) ?_
      exact hk24 (wI (x1 + 1)) μ
    · refine sr_aload_n (i := 0) (pc' := 61) dX9_firstDraft_60 rfl rfl rfl ?_
      refine sr_getR (k := 12) (b := 11) (pc' := 64) cls_X9 dX9_firstDraft_61 rfl sm_0 rfl (by decide) w_370 ?_
      refine sr_iconst (pc' := 65) dX9_firstDraft_64 rfl (by decide) ?_
      refine sr_iload_n (i := 1) (pc' := 66) dX9_firstDraft_65 rfl rfl rfl ?_
      refine sr_imul (pc' := 67) dX9_firstDraft_66 rfl ?_
      refine sr_iload_n (i := 2) (pc' := 68) dX9_firstDraft_67 rfl rfl rfl ?_
      refine sr_iadd (pc' := 69) dX9_firstDraft_68 rfl ?_
      refine sr_iconst (pc' := 70) dX9_firstDraft_69 rfl (by decide) ?_
      refine sr_iast (pc' := 71) dX9_firstDraft_70 rfl sm_11 (by decide) (fun μ1 hμ1 hμ1a hμ1b => ?_)
      refine sr_aload_n (i := 0) (pc' := 72) dX9_firstDraft_71 rfl rfl rfl ?_
      refine sr_getR (k := 13) (b := 12) (pc' := 75) cls_X9 dX9_firstDraft_72 rfl sm_0 rfl (by decide) w_333 ?_
      refine sr_iconst (pc' := 76) dX9_firstDraft_75 rfl (by decide) ?_
      refine sr_iload_n (i := 1) (pc' := 77) dX9_firstDraft_76 rfl rfl rfl ?_
      refine sr_imul (pc' := 78) dX9_firstDraft_77 rfl ?_
      refine sr_iload_n (i := 2) (pc' := 79) dX9_firstDraft_78 rfl rfl rfl ?_
      refine sr_iadd (pc' := 80) dX9_firstDraft_79 rfl ?_
      refine sr_iconst (pc' := 81) dX9_firstDraft_80 rfl (by decide) ?_
      refine sr_zast (pc' := 82) dX9_firstDraft_81 rfl sm_12 (by decide) (fun μ2 hμ2 hμ2a hμ2b => ?_)
      refine sr_iinc (lv' := [some (vR 0), some (vI x1), some (vI (wI (x2 + 1)))]) (pc' := 85) dX9_firstDraft_82 rfl (by decide) rfl rfl ?_
      refine sr_goto (pc' := 55) dX9_firstDraft_85 rfl ?_
      exact ih x1 (wI (x2 + 1)) μ2
def mod_firstDraft0_24   : Nat → Int → Mem → Option (Mem)
  | 0, _, _ => none
  | n + 1, x1, μ => if 21 ≤ x1 then (bnd (mset μ 0 8 10) fun μ1 => bnd (mset μ1 0 14 0) fun μ2 => bnd (mset μ2 0 15 0) fun μ3 => bnd (mset μ3 0 16 (-4)) fun μ4 => some μ4) else ((stx μ 8 21 x1 (zN 0)).bind fun μ5 => (stx μ5 9 21 x1 (-4)).bind fun μ6 => (stx μ6 10 21 x1 (-4)).bind fun μ7 => mod_firstDraft0_55 (mod_firstDraft0_24 n) BIG x1 0 μ7)
theorem mod_firstDraft0_24_s {l : Launch} {G : Nv}     : ∀ (n : Nat) (x1 : Int) (μ : Mem), SR l G SM mX9_firstDraft (mod_firstDraft0_24 n x1 μ) jM 24 [some (vR 0), some (vI x1), none] [] μ := by
  intro n
  induction n with
  | zero => intro x1 μ; exact sr_none
  | succ n ih =>
    intro x1 μ
    rw [mod_firstDraft0_24.eq_2]
    refine sr_iload_n (i := 1) (pc' := 25) dX9_firstDraft_24 rfl rfl rfl ?_
    refine sr_bipush (pc' := 27) dX9_firstDraft_25 rfl (by decide) (by decide) ?_
    refine sr_icmp_ge (pc' := 30) (tgt := 94) dX9_firstDraft_27 rfl rfl (fun c27 => ?_) (fun c27 => ?_)
    · refine sr_aload_n (i := 0) (pc' := 95) dX9_firstDraft_94 rfl rfl rfl ?_
      refine sr_bipush (pc' := 97) dX9_firstDraft_95 rfl (by decide) (by decide) ?_
      refine sr_putI (k := 8) (pc' := 100) cls_X9 dX9_firstDraft_97 rfl sm_0 rfl (by decide) w_371 rfl rfl (fun μ1 hμ1 => ?_)
      refine sr_aload_n (i := 0) (pc' := 101) dX9_firstDraft_100 rfl rfl rfl ?_
      refine sr_iconst (pc' := 102) dX9_firstDraft_101 rfl (by decide) ?_
      refine sr_putZ (k := 14) (pc' := 105) cls_X9 dX9_firstDraft_102 rfl sm_0 rfl (by decide) w_372 rfl rfl (Or.inl rfl) (fun μ2 hμ2 => ?_)
      refine sr_aload_n (i := 0) (pc' := 106) dX9_firstDraft_105 rfl rfl rfl ?_
      refine sr_iconst (pc' := 107) dX9_firstDraft_106 rfl (by decide) ?_
      refine sr_putI (k := 15) (pc' := 110) cls_X9 dX9_firstDraft_107 rfl sm_0 rfl (by decide) w_373 rfl rfl (fun μ3 hμ3 => ?_)
      refine sr_aload_n (i := 0) (pc' := 111) dX9_firstDraft_110 rfl rfl rfl ?_
      refine sr_bipush (pc' := 113) dX9_firstDraft_111 rfl (by decide) (by decide) ?_
      refine sr_putI (k := 16) (pc' := 116) cls_X9 dX9_firstDraft_113 rfl sm_0 rfl (by decide) w_374 rfl rfl (fun μ4 hμ4 => ?_)
      exact sr_ret dX9_firstDraft_116 rfl rfl
    · refine sr_aload_n (i := 0) (pc' := 31) dX9_firstDraft_30 rfl rfl rfl ?_
      refine sr_getR (k := 9) (b := 8) (pc' := 34) cls_X9 dX9_firstDraft_31 rfl sm_0 rfl (by decide) w_375 ?_
      refine sr_iload_n (i := 1) (pc' := 35) dX9_firstDraft_34 rfl rfl rfl ?_
      refine sr_iconst (pc' := 36) dX9_firstDraft_35 rfl (by decide) ?_
      refine sr_zast (pc' := 37) dX9_firstDraft_36 rfl sm_8 (by decide) (fun μ5 hμ5 hμ5a hμ5b => ?_)
      refine sr_aload_n (i := 0) (pc' := 38) dX9_firstDraft_37 rfl rfl rfl ?_
      refine sr_getR (k := 10) (b := 9) (pc' := 41) cls_X9 dX9_firstDraft_38 rfl sm_0 rfl (by decide) w_334 ?_
      refine sr_iload_n (i := 1) (pc' := 42) dX9_firstDraft_41 rfl rfl rfl ?_
      refine sr_bipush (pc' := 44) dX9_firstDraft_42 rfl (by decide) (by decide) ?_
      refine sr_iast (pc' := 45) dX9_firstDraft_44 rfl sm_9 (by decide) (fun μ6 hμ6 hμ6a hμ6b => ?_)
      refine sr_aload_n (i := 0) (pc' := 46) dX9_firstDraft_45 rfl rfl rfl ?_
      refine sr_getR (k := 11) (b := 10) (pc' := 49) cls_X9 dX9_firstDraft_46 rfl sm_0 rfl (by decide) w_376 ?_
      refine sr_iload_n (i := 1) (pc' := 50) dX9_firstDraft_49 rfl rfl rfl ?_
      refine sr_bipush (pc' := 52) dX9_firstDraft_50 rfl (by decide) (by decide) ?_
      refine sr_iast (pc' := 53) dX9_firstDraft_52 rfl sm_10 (by decide) (fun μ7 hμ7 hμ7a hμ7b => ?_)
      refine sr_iconst (pc' := 54) dX9_firstDraft_53 rfl (by decide) ?_
      refine sr_istore_n (i := 2) (lv' := [some (vR 0), some (vI x1), some (vI 0)]) (pc' := 55) dX9_firstDraft_54 rfl rfl (by decide) rfl ?_
      exact mod_firstDraft0_55_s ih BIG x1 0 μ7
def mod_firstDraft0_2   : Nat → Int → Mem → Option (Mem)
  | 0, _, _ => none
  | n + 1, x1, μ => if 185 ≤ x1 then (mod_firstDraft0_24 BIG 0 μ) else ((stx μ 7 185 x1 0).bind fun μ1 => mod_firstDraft0_2 n (wI (x1 + 1)) μ1)
theorem mod_firstDraft0_2_s {l : Launch} {G : Nv}     : ∀ (n : Nat) (x1 : Int) (μ : Mem), SR l G SM mX9_firstDraft (mod_firstDraft0_2 n x1 μ) jM 2 [some (vR 0), some (vI x1), none] [] μ := by
  intro n
  induction n with
  | zero => intro x1 μ; exact sr_none
  | succ n ih =>
    intro x1 μ
    rw [mod_firstDraft0_2.eq_2]
    refine sr_iload_n (i := 1) (pc' := 3) dX9_firstDraft_2 rfl rfl rfl ?_
    refine sr_sipush (pc' := 6) dX9_firstDraft_3 rfl (by decide) (by decide) ?_
    refine sr_icmp_ge (pc' := 9) (tgt := 22) dX9_firstDraft_6 rfl rfl (fun c6 => ?_) (fun c6 => ?_)
    · refine sr_iconst (pc' := 23) dX9_firstDraft_22 rfl (by decide) ?_
      refine sr_istore_n (i := 1) (lv' := [some (vR 0), some (vI 0), none]) (pc' := 24) dX9_firstDraft_23 rfl rfl (by decide) rfl ?_
      exact mod_firstDraft0_24_s BIG 0 μ
    · refine sr_aload_n (i := 0) (pc' := 10) dX9_firstDraft_9 rfl rfl rfl ?_
      refine sr_getR (k := 7) (b := 7) (pc' := 13) cls_X9 dX9_firstDraft_10 rfl sm_0 rfl (by decide) w_377 ?_
      refine sr_iload_n (i := 1) (pc' := 14) dX9_firstDraft_13 rfl rfl rfl ?_
      refine sr_iconst (pc' := 15) dX9_firstDraft_14 rfl (by decide) ?_
      refine sr_iast (pc' := 16) dX9_firstDraft_15 rfl sm_7 (by decide) (fun μ1 hμ1 hμ1a hμ1b => ?_)
      refine sr_iinc (lv' := [some (vR 0), some (vI (wI (x1 + 1))), none]) (pc' := 19) dX9_firstDraft_16 rfl (by decide) rfl rfl ?_
      refine sr_goto (pc' := 2) dX9_firstDraft_19 rfl ?_
      exact ih (wI (x1 + 1)) μ1
def mod_firstDraft0   (μ : Mem) : Option (Mem) := mod_firstDraft0_2 BIG 0 μ
theorem mod_firstDraft0_sp {l : Launch} {G : Nv}   (μ : Mem) : SP l G SM mX9_firstDraft [vR 0] μ (mod_firstDraft0 μ) jM := by
  refine sp_go (lv := [some (vR 0), none, none]) pn_X9 (Nat.le_of_ble_eq_true rfl) rfl ?_
  unfold mod_firstDraft0
  refine sr_iconst (pc' := 1) dX9_firstDraft_0 rfl (by decide) ?_
  refine sr_istore_n (i := 1) (lv' := [some (vR 0), some (vI 0), none]) (pc' := 2) dX9_firstDraft_1 rfl rfl (by decide) rfl ?_
  exact mod_firstDraft0_2_s BIG 0 μ
def mod_keepDraft0_81  (k37 : Int → Mem → Option (Mem)) : Nat → Int → Int → Mem → Option (Mem)
  | 0, _, _, _ => none
  | n + 1, x1, x2, μ => if 3 ≤ x2 then (k37 (wI (x1 + 1)) μ) else ((ld μ 11 63 (wI ((wI (3 * x1)) + x2))).bind fun v1 => (stx μ 6 63 (wI ((wI (3 * x1)) + x2)) v1).bind fun μ2 => mod_keepDraft0_81 k37 n x1 (wI (x2 + 1)) μ2)
theorem mod_keepDraft0_81_s {l : Launch} {G : Nv}   {k37 : Int → Mem → Option (Mem)} (hk37 : ∀ (x1 : Int) (μ : Mem) , SR l G SM mX9_keepDraft (k37 x1 μ) jM 37 [some (vR 0), some (vI x1), none] [] μ) : ∀ (n : Nat) (x1 x2 : Int) (μ : Mem), SR l G SM mX9_keepDraft (mod_keepDraft0_81 k37 n x1 x2 μ) jM 81 [some (vR 0), some (vI x1), some (vI x2)] [] μ := by
  intro n
  induction n with
  | zero => intro x1 x2 μ; exact sr_none
  | succ n ih =>
    intro x1 x2 μ
    rw [mod_keepDraft0_81.eq_2]
    refine sr_iload_n (i := 2) (pc' := 82) dX9_keepDraft_81 rfl rfl rfl ?_
    refine sr_iconst (pc' := 83) dX9_keepDraft_82 rfl (by decide) ?_
    refine sr_icmp_ge (pc' := 86) (tgt := 112) dX9_keepDraft_83 rfl rfl (fun c83 => ?_) (fun c83 => ?_)
    · refine sr_iinc (lv' := [some (vR 0), some (vI (wI (x1 + 1))), some (vI x2)]) (pc' := 115) dX9_keepDraft_112 rfl (by decide) rfl rfl ?_
      refine sr_goto (pc' := 37) dX9_keepDraft_115 rfl ?_
      refine sr_fgt (fgt_s (fgt_s (fgt_n fgt_nil))) ?_
      exact hk37 (wI (x1 + 1)) μ
    · refine sr_aload_n (i := 0) (pc' := 87) dX9_keepDraft_86 rfl rfl rfl ?_
      refine sr_getR (k := 6) (b := 6) (pc' := 90) cls_X9 dX9_keepDraft_87 rfl sm_0 rfl (by decide) w_321 ?_
      refine sr_iconst (pc' := 91) dX9_keepDraft_90 rfl (by decide) ?_
      refine sr_iload_n (i := 1) (pc' := 92) dX9_keepDraft_91 rfl rfl rfl ?_
      refine sr_imul (pc' := 93) dX9_keepDraft_92 rfl ?_
      refine sr_iload_n (i := 2) (pc' := 94) dX9_keepDraft_93 rfl rfl rfl ?_
      refine sr_iadd (pc' := 95) dX9_keepDraft_94 rfl ?_
      refine sr_aload_n (i := 0) (pc' := 96) dX9_keepDraft_95 rfl rfl rfl ?_
      refine sr_getR (k := 12) (b := 11) (pc' := 99) cls_X9 dX9_keepDraft_96 rfl sm_0 rfl (by decide) w_370 ?_
      refine sr_iconst (pc' := 100) dX9_keepDraft_99 rfl (by decide) ?_
      refine sr_iload_n (i := 1) (pc' := 101) dX9_keepDraft_100 rfl rfl rfl ?_
      refine sr_imul (pc' := 102) dX9_keepDraft_101 rfl ?_
      refine sr_iload_n (i := 2) (pc' := 103) dX9_keepDraft_102 rfl rfl rfl ?_
      refine sr_iadd (pc' := 104) dX9_keepDraft_103 rfl ?_
      refine sr_iald (pc' := 105) dX9_keepDraft_104 rfl sm_11 (by decide) (fun v1 hv1 hv1a hv1b => ?_)
      refine sr_iast (pc' := 106) dX9_keepDraft_105 rfl sm_6 (by decide) (fun μ2 hμ2 hμ2a hμ2b => ?_)
      refine sr_iinc (lv' := [some (vR 0), some (vI x1), some (vI (wI (x2 + 1)))]) (pc' := 109) dX9_keepDraft_106 rfl (by decide) rfl rfl ?_
      refine sr_goto (pc' := 81) dX9_keepDraft_109 rfl ?_
      exact ih x1 (wI (x2 + 1)) μ2
def mod_keepDraft0_37   : Nat → Int → Mem → Option (Mem)
  | 0, _, _ => none
  | n + 1, x1, μ => if 21 ≤ x1 then (bnd (mset μ 2 0 (zN 0)) fun μ1 => bnd (mset μ1 2 1 (zN 0)) fun μ2 => some μ2) else ((ld μ 8 21 x1).bind fun v3 => (stx μ 3 21 x1 (zN v3)).bind fun μ4 => (ld μ4 9 21 x1).bind fun v5 => (stx μ4 4 21 x1 v5).bind fun μ6 => (ld μ6 10 21 x1).bind fun v7 => (stx μ6 5 21 x1 v7).bind fun μ8 => mod_keepDraft0_81 (mod_keepDraft0_37 n) BIG x1 0 μ8)
theorem mod_keepDraft0_37_s {l : Launch} {G : Nv}     : ∀ (n : Nat) (x1 : Int) (μ : Mem), SR l G SM mX9_keepDraft (mod_keepDraft0_37 n x1 μ) jM 37 [some (vR 0), some (vI x1), none] [] μ := by
  intro n
  induction n with
  | zero => intro x1 μ; exact sr_none
  | succ n ih =>
    intro x1 μ
    rw [mod_keepDraft0_37.eq_2]
    refine sr_iload_n (i := 1) (pc' := 38) dX9_keepDraft_37 rfl rfl rfl ?_
    refine sr_bipush (pc' := 40) dX9_keepDraft_38 rfl (by decide) (by decide) ?_
    refine sr_icmp_ge (pc' := 43) (tgt := 118) dX9_keepDraft_40 rfl rfl (fun c40 => ?_) (fun c40 => ?_)
    · refine sr_aload_n (i := 0) (pc' := 119) dX9_keepDraft_118 rfl rfl rfl ?_
      refine sr_getR (k := 1) (b := 2) (pc' := 122) cls_X9 dX9_keepDraft_119 rfl sm_0 rfl (by decide) w_337 ?_
      refine sr_iconst (pc' := 123) dX9_keepDraft_122 rfl (by decide) ?_
      refine sr_iconst (pc' := 124) dX9_keepDraft_123 rfl (by decide) ?_
      refine sr_zastc (j := 0) (pc' := 125) dX9_keepDraft_124 rfl sm_2 (by decide) (by decide) (by decide) rfl (fun μ1 hμ1 => ?_)
      refine sr_aload_n (i := 0) (pc' := 126) dX9_keepDraft_125 rfl rfl rfl ?_
      refine sr_getR (k := 1) (b := 2) (pc' := 129) cls_X9 dX9_keepDraft_126 rfl sm_0 rfl (by decide) w_337 ?_
      refine sr_iconst (pc' := 130) dX9_keepDraft_129 rfl (by decide) ?_
      refine sr_iconst (pc' := 131) dX9_keepDraft_130 rfl (by decide) ?_
      refine sr_zastc (j := 1) (pc' := 132) dX9_keepDraft_131 rfl sm_2 (by decide) (by decide) (by decide) rfl (fun μ2 hμ2 => ?_)
      exact sr_ret dX9_keepDraft_132 rfl rfl
    · refine sr_aload_n (i := 0) (pc' := 44) dX9_keepDraft_43 rfl rfl rfl ?_
      refine sr_getR (k := 3) (b := 3) (pc' := 47) cls_X9 dX9_keepDraft_44 rfl sm_0 rfl (by decide) w_319 ?_
      refine sr_iload_n (i := 1) (pc' := 48) dX9_keepDraft_47 rfl rfl rfl ?_
      refine sr_aload_n (i := 0) (pc' := 49) dX9_keepDraft_48 rfl rfl rfl ?_
      refine sr_getR (k := 9) (b := 8) (pc' := 52) cls_X9 dX9_keepDraft_49 rfl sm_0 rfl (by decide) w_375 ?_
      refine sr_iload_n (i := 1) (pc' := 53) dX9_keepDraft_52 rfl rfl rfl ?_
      refine sr_zald (pc' := 54) dX9_keepDraft_53 rfl sm_8 (by decide) (fun v3 hv3 hv3a hv3b => ?_)
      refine sr_zast (pc' := 55) dX9_keepDraft_54 rfl sm_3 (by decide) (fun μ4 hμ4 hμ4a hμ4b => ?_)
      refine sr_aload_n (i := 0) (pc' := 56) dX9_keepDraft_55 rfl rfl rfl ?_
      refine sr_getR (k := 4) (b := 4) (pc' := 59) cls_X9 dX9_keepDraft_56 rfl sm_0 rfl (by decide) w_318 ?_
      refine sr_iload_n (i := 1) (pc' := 60) dX9_keepDraft_59 rfl rfl rfl ?_
      refine sr_aload_n (i := 0) (pc' := 61) dX9_keepDraft_60 rfl rfl rfl ?_
      refine sr_getR (k := 10) (b := 9) (pc' := 64) cls_X9 dX9_keepDraft_61 rfl sm_0 rfl (by decide) w_334 ?_
      refine sr_iload_n (i := 1) (pc' := 65) dX9_keepDraft_64 rfl rfl rfl ?_
      refine sr_iald (pc' := 66) dX9_keepDraft_65 rfl sm_9 (by decide) (fun v5 hv5 hv5a hv5b => ?_)
      refine sr_iast (pc' := 67) dX9_keepDraft_66 rfl sm_4 (by decide) (fun μ6 hμ6 hμ6a hμ6b => ?_)
      refine sr_aload_n (i := 0) (pc' := 68) dX9_keepDraft_67 rfl rfl rfl ?_
      refine sr_getR (k := 5) (b := 5) (pc' := 71) cls_X9 dX9_keepDraft_68 rfl sm_0 rfl (by decide) w_341 ?_
      refine sr_iload_n (i := 1) (pc' := 72) dX9_keepDraft_71 rfl rfl rfl ?_
      refine sr_aload_n (i := 0) (pc' := 73) dX9_keepDraft_72 rfl rfl rfl ?_
      refine sr_getR (k := 11) (b := 10) (pc' := 76) cls_X9 dX9_keepDraft_73 rfl sm_0 rfl (by decide) w_376 ?_
      refine sr_iload_n (i := 1) (pc' := 77) dX9_keepDraft_76 rfl rfl rfl ?_
      refine sr_iald (pc' := 78) dX9_keepDraft_77 rfl sm_10 (by decide) (fun v7 hv7 hv7a hv7b => ?_)
      refine sr_iast (pc' := 79) dX9_keepDraft_78 rfl sm_5 (by decide) (fun μ8 hμ8 hμ8a hμ8b => ?_)
      refine sr_iconst (pc' := 80) dX9_keepDraft_79 rfl (by decide) ?_
      refine sr_istore_n (i := 2) (lv' := [some (vR 0), some (vI x1), some (vI 0)]) (pc' := 81) dX9_keepDraft_80 rfl rfl (by decide) rfl ?_
      exact mod_keepDraft0_81_s ih BIG x1 0 μ8
def mod_keepDraft0_2   : Nat → Int → Mem → Option (Mem)
  | 0, _, _ => none
  | n + 1, x1, μ => if 185 ≤ x1 then (bnd (mset μ 0 2 (μ 0 8)) fun μ1 => mod_keepDraft0_37 BIG 0 μ1) else ((ld μ 7 185 x1).bind fun v2 => (stx μ 1 555 x1 v2).bind fun μ3 => mod_keepDraft0_2 n (wI (x1 + 1)) μ3)
theorem mod_keepDraft0_2_s {l : Launch} {G : Nv}     : ∀ (n : Nat) (x1 : Int) (μ : Mem), SR l G SM mX9_keepDraft (mod_keepDraft0_2 n x1 μ) jM 2 [some (vR 0), some (vI x1), none] [] μ := by
  intro n
  induction n with
  | zero => intro x1 μ; exact sr_none
  | succ n ih =>
    intro x1 μ
    rw [mod_keepDraft0_2.eq_2]
    refine sr_iload_n (i := 1) (pc' := 3) dX9_keepDraft_2 rfl rfl rfl ?_
    refine sr_sipush (pc' := 6) dX9_keepDraft_3 rfl (by decide) (by decide) ?_
    refine sr_icmp_ge (pc' := 9) (tgt := 27) dX9_keepDraft_6 rfl rfl (fun c6 => ?_) (fun c6 => ?_)
    · refine sr_aload_n (i := 0) (pc' := 28) dX9_keepDraft_27 rfl rfl rfl ?_
      refine sr_aload_n (i := 0) (pc' := 29) dX9_keepDraft_28 rfl rfl rfl ?_
      refine sr_getI (k := 8) (pc' := 32) cls_X9 dX9_keepDraft_29 rfl sm_0 rfl (by decide) w_371 ?_
      refine sr_putI (k := 2) (pc' := 35) cls_X9 dX9_keepDraft_32 rfl sm_0 rfl (by decide) w_339 rfl rfl (fun μ1 hμ1 => ?_)
      refine sr_iconst (pc' := 36) dX9_keepDraft_35 rfl (by decide) ?_
      refine sr_istore_n (i := 1) (lv' := [some (vR 0), some (vI 0), none]) (pc' := 37) dX9_keepDraft_36 rfl rfl (by decide) rfl ?_
      exact mod_keepDraft0_37_s BIG 0 μ1
    · refine sr_aload_n (i := 0) (pc' := 10) dX9_keepDraft_9 rfl rfl rfl ?_
      refine sr_getR (k := 0) (b := 1) (pc' := 13) cls_X9 dX9_keepDraft_10 rfl sm_0 rfl (by decide) w_311 ?_
      refine sr_iload_n (i := 1) (pc' := 14) dX9_keepDraft_13 rfl rfl rfl ?_
      refine sr_aload_n (i := 0) (pc' := 15) dX9_keepDraft_14 rfl rfl rfl ?_
      refine sr_getR (k := 7) (b := 7) (pc' := 18) cls_X9 dX9_keepDraft_15 rfl sm_0 rfl (by decide) w_377 ?_
      refine sr_iload_n (i := 1) (pc' := 19) dX9_keepDraft_18 rfl rfl rfl ?_
      refine sr_iald (pc' := 20) dX9_keepDraft_19 rfl sm_7 (by decide) (fun v2 hv2 hv2a hv2b => ?_)
      refine sr_iast (pc' := 21) dX9_keepDraft_20 rfl sm_1 (by decide) (fun μ3 hμ3 hμ3a hμ3b => ?_)
      refine sr_iinc (lv' := [some (vR 0), some (vI (wI (x1 + 1))), none]) (pc' := 24) dX9_keepDraft_21 rfl (by decide) rfl rfl ?_
      refine sr_goto (pc' := 2) dX9_keepDraft_24 rfl ?_
      exact ih (wI (x1 + 1)) μ3
def mod_keepDraft0   (μ : Mem) : Option (Mem) := mod_keepDraft0_2 BIG 0 μ
theorem mod_keepDraft0_sp {l : Launch} {G : Nv}   (μ : Mem) : SP l G SM mX9_keepDraft [vR 0] μ (mod_keepDraft0 μ) jM := by
  refine sp_go (lv := [some (vR 0), none, none]) pn_X9 (Nat.le_of_ble_eq_true rfl) rfl ?_
  unfold mod_keepDraft0
  refine sr_iconst (pc' := 1) dX9_keepDraft_0 rfl (by decide) ?_
  refine sr_istore_n (i := 1) (lv' := [some (vR 0), some (vI 0), none]) (pc' := 2) dX9_keepDraft_1 rfl rfl (by decide) rfl ?_
  exact mod_keepDraft0_2_s BIG 0 μ
