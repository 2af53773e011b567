def mod_cost (μ : Mem)  (x1 : Int) : Option (Int) := (mod_areSome μ x1).bind fun u1 => if u1 = 0 then (some (-1)) else ((ld μ 62 555 (wI (160 + x1))).bind fun v2 => some v2)
theorem mod_cost_sp {l : Launch} {G : Nv}   (x1 : Int) (μ : Mem) : SP l G S88 mX9_cost [vR 61, vI x1] μ (mod_cost μ x1) (jI μ) := by
  refine sp_go (lv := [some (vR 61), some (vI x1)]) pn_X9 (Nat.le_of_ble_eq_true rfl) rfl ?_
  unfold mod_cost
  refine sr_iload_n (i := 1) (pc' := 1) dX9_cost_0 rfl rfl rfl ?_
  refine sr_callS1_I (pc' := 4) (mod_areSome_sp x1 μ) dX9_cost_1 rfl mg_X9_areSome ms_X9_areSome ⟨Nat.le_of_ble_eq_true rfl, Nat.le_of_ble_eq_true rfl⟩ w_347 (Nat.le_of_ble_eq_true rfl) (fun u1 hu1 hcu1 hzu1 => ?_)
  refine sr_if_eq (pc' := 7) (tgt := 20) dX9_cost_4 rfl rfl (fun c4 => ?_) (fun c4 => ?_)
  · refine sr_iconst (pc' := 21) dX9_cost_20 rfl (by decide) ?_
    exact sr_iretI dX9_cost_21 rfl rfl
  · refine sr_aload_n (i := 0) (pc' := 8) dX9_cost_7 rfl rfl rfl ?_
    refine sr_getR (k := 0) (b := 62) (pc' := 11) cls_X9 dX9_cost_8 rfl s88_61 rfl (by decide) w_311 ?_
    refine sr_sipush (pc' := 14) dX9_cost_11 rfl (by decide) (by decide) ?_
    refine sr_iload_n (i := 1) (pc' := 15) dX9_cost_14 rfl rfl rfl ?_
    refine sr_iadd (pc' := 16) dX9_cost_15 rfl ?_
    refine sr_iald (pc' := 17) dX9_cost_16 rfl s88_62 (by decide) (fun v2 hv2 hv2a hv2b => ?_)
    refine sr_goto (pc' := 21) dX9_cost_17 rfl ?_
    exact sr_iretI dX9_cost_21 rfl rfl
def mod_count (μ : Mem)  (x1 : Int) : Option (Int) := if x1 = 0 then (some (μ 61 2)) else if x1 = 1 then (some (μ 62 0)) else if x1 = 2 then (some (μ 62 168)) else if x1 = 3 then ((mod_flag μ (μ 63 0)).bind fun u1 => (mod_flag μ (μ 63 1)).bind fun u2 => some (wI (u1 + u2))) else if x1 = 4 then (some (μ 61 18)) else if x1 = 5 then (if (μ 85 0) = (-4) then (some (-4)) else (some (μ 86 0))) else (some (-1))
theorem mod_count_sp {l : Launch} {G : Nv}   (x1 : Int) (μ : Mem) : SP l G S88 mX9_count [vR 61, vI x1] μ (mod_count μ x1) (jI μ) := by
  refine sp_go (lv := [some (vR 61), some (vI x1)]) pn_X9 (Nat.le_of_ble_eq_true rfl) rfl ?_
  unfold mod_count
  refine sr_iload_n (i := 1) (pc' := 1) dX9_count_0 rfl rfl rfl ?_
  refine sr_ite (fun c1_0 => ?_) (fun c1_0 => ?_)
  · refine sr_swIn (j := 0) (tgt := 40) dX9_count_1 (by omega) (by omega) rfl rfl ?_
    refine sr_aload_n (i := 0) (pc' := 41) dX9_count_40 rfl rfl rfl ?_
    refine sr_getI (k := 2) (pc' := 44) cls_X9 dX9_count_41 rfl s88_61 rfl (by decide) w_339 ?_
    exact sr_iretI dX9_count_44 rfl rfl
  refine sr_ite (fun c1_1 => ?_) (fun c1_1 => ?_)
  · refine sr_swIn (j := 1) (tgt := 45) dX9_count_1 (by omega) (by omega) rfl rfl ?_
    refine sr_aload_n (i := 0) (pc' := 46) dX9_count_45 rfl rfl rfl ?_
    refine sr_getR (k := 0) (b := 62) (pc' := 49) cls_X9 dX9_count_46 rfl s88_61 rfl (by decide) w_311 ?_
    refine sr_iconst (pc' := 50) dX9_count_49 rfl (by decide) ?_
    refine sr_ialdc (j := 0) (pc' := 51) dX9_count_50 rfl s88_62 (by decide) (by decide) (by decide) rfl ?_
    exact sr_iretI dX9_count_51 rfl rfl
  refine sr_ite (fun c1_2 => ?_) (fun c1_2 => ?_)
  · refine sr_swIn (j := 2) (tgt := 52) dX9_count_1 (by omega) (by omega) rfl rfl ?_
    refine sr_aload_n (i := 0) (pc' := 53) dX9_count_52 rfl rfl rfl ?_
    refine sr_getR (k := 0) (b := 62) (pc' := 56) cls_X9 dX9_count_53 rfl s88_61 rfl (by decide) w_311 ?_
    refine sr_sipush (pc' := 59) dX9_count_56 rfl (by decide) (by decide) ?_
    refine sr_ialdc (j := 168) (pc' := 60) dX9_count_59 rfl s88_62 (by decide) (by decide) (by decide) rfl ?_
    exact sr_iretI dX9_count_60 rfl rfl
  refine sr_ite (fun c1_3 => ?_) (fun c1_3 => ?_)
  · refine sr_swIn (j := 3) (tgt := 61) dX9_count_1 (by omega) (by omega) rfl rfl ?_
    refine sr_aload_n (i := 0) (pc' := 62) dX9_count_61 rfl rfl rfl ?_
    refine sr_getR (k := 1) (b := 63) (pc' := 65) cls_X9 dX9_count_62 rfl s88_61 rfl (by decide) w_337 ?_
    refine sr_iconst (pc' := 66) dX9_count_65 rfl (by decide) ?_
    refine sr_zaldc (j := 0) (pc' := 67) dX9_count_66 rfl s88_63 (by decide) (by decide) (by decide) rfl ?_
    refine sr_callS1_I (pc' := 70) (mod_flag_sp (μ 63 0) μ) dX9_count_67 rfl mg_X9_flag ms_X9_flag ⟨Nat.le_of_ble_eq_true rfl, Nat.le_of_ble_eq_true rfl⟩ w_344 (Nat.le_of_ble_eq_true rfl) (fun u1 hu1 hcu1 hzu1 => ?_)
    refine sr_aload_n (i := 0) (pc' := 71) dX9_count_70 rfl rfl rfl ?_
    refine sr_getR (k := 1) (b := 63) (pc' := 74) cls_X9 dX9_count_71 rfl s88_61 rfl (by decide) w_337 ?_
    refine sr_iconst (pc' := 75) dX9_count_74 rfl (by decide) ?_
    refine sr_zaldc (j := 1) (pc' := 76) dX9_count_75 rfl s88_63 (by decide) (by decide) (by decide) rfl ?_
    refine sr_callS1_I (pc' := 79) (mod_flag_sp (μ 63 1) μ) dX9_count_76 rfl mg_X9_flag ms_X9_flag ⟨Nat.le_of_ble_eq_true rfl, Nat.le_of_ble_eq_true rfl⟩ w_344 (Nat.le_of_ble_eq_true rfl) (fun u2 hu2 hcu2 hzu2 => ?_)
    refine sr_iadd (pc' := 80) dX9_count_79 rfl ?_
    exact sr_iretI dX9_count_80 rfl rfl
  refine sr_ite (fun c1_4 => ?_) (fun c1_4 => ?_)
  · refine sr_swIn (j := 4) (tgt := 81) dX9_count_1 (by omega) (by omega) rfl rfl ?_
    refine sr_aload_n (i := 0) (pc' := 82) dX9_count_81 rfl rfl rfl ?_
    refine sr_getI (k := 18) (pc' := 85) cls_X9 dX9_count_82 rfl s88_61 rfl (by decide) w_348 ?_
    exact sr_iretI dX9_count_85 rfl rfl
  refine sr_ite (fun c1_5 => ?_) (fun c1_5 => ?_)
  · refine sr_swIn (j := 5) (tgt := 86) dX9_count_1 (by omega) (by omega) rfl rfl ?_
    refine sr_aload_n (i := 0) (pc' := 87) dX9_count_86 rfl rfl rfl ?_
    refine sr_getR (k := 36) (b := 85) (pc' := 90) cls_X9 dX9_count_87 rfl s88_61 rfl (by decide) w_349 ?_
    refine sr_iconst (pc' := 91) dX9_count_90 rfl (by decide) ?_
    refine sr_ialdc (j := 0) (pc' := 92) dX9_count_91 rfl s88_85 (by decide) (by decide) (by decide) rfl ?_
    refine sr_bipush (pc' := 94) dX9_count_92 rfl (by decide) (by decide) ?_
    refine sr_icmp_ne (pc' := 97) (tgt := 102) dX9_count_94 rfl rfl (fun c94 => ?_) (fun c94 => ?_)
    · refine sr_bipush (pc' := 99) dX9_count_97 rfl (by decide) (by decide) ?_
      refine sr_goto (pc' := 108) dX9_count_99 rfl ?_
      exact sr_iretI dX9_count_108 rfl rfl
    · refine sr_aload_n (i := 0) (pc' := 103) dX9_count_102 rfl rfl rfl ?_
      refine sr_getR (k := 37) (b := 86) (pc' := 106) cls_X9 dX9_count_103 rfl s88_61 rfl (by decide) w_350 ?_
      refine sr_iconst (pc' := 107) dX9_count_106 rfl (by decide) ?_
      refine sr_ialdc (j := 0) (pc' := 108) dX9_count_107 rfl s88_86 (by decide) (by decide) (by decide) rfl ?_
      exact sr_iretI dX9_count_108 rfl rfl
  refine sr_swOut (tgt := 109) [0, 1, 2, 3, 4, 5] dX9_count_1 (by simp only [List.forall_mem_cons, List.not_mem_nil, false_implies, implies_true, and_true]; omega) (by decide) rfl ?_
  refine sr_iconst (pc' := 110) dX9_count_109 rfl (by decide) ?_
  exact sr_iretI dX9_count_110 rfl rfl
def mod_isTime (μ : Mem)  (x0 : Int) : Option (Int) := (mod_in μ x0 0 60).bind fun u1 => some u1
theorem mod_isTime_sp {l : Launch} {G : Nv} {Sh : Shp}   (x0 : Int) (μ : Mem) : SP l G Sh mX9_isTime [vI x0] μ (mod_isTime μ x0) (jI μ) := by
  refine sp_go (lv := [some (vI x0)]) pn_X9 (Nat.le_of_ble_eq_true rfl) rfl ?_
  unfold mod_isTime
  refine sr_iload_n (i := 0) (pc' := 1) dX9_isTime_0 rfl rfl rfl ?_
  refine sr_i2l (pc' := 2) dX9_isTime_1 rfl ?_
  refine sr_lconst (x := 0) (pc' := 3) dX9_isTime_2 rfl (by decide) rfl ?_
  refine sr_ldc2 (x := 60) (pc' := 6) dX9_isTime_3 rfl (by decide) w_351 ?_
  refine sr_callS3_I (pc' := 9) (mod_in_sp x0 0 60 μ) dX9_isTime_6 rfl mg_X9_in ms_X9_in ⟨Nat.le_of_ble_eq_true rfl, Nat.le_of_ble_eq_true rfl⟩ w_336 (Nat.le_of_ble_eq_true rfl) (fun u1 hu1 hcu1 hzu1 => ?_)
  exact sr_iretZ dX9_isTime_9 rfl (hzu1 rfl)  rfl
def mod_deepest_84  (k87 : Int → Int → Int → Mem → Option (Int × Mem)) (x2 x4 : Int) (μ : Mem) : Option (Int × Mem) := k87 x2 x4 x4 μ
theorem mod_deepest_84_s {l : Launch} {G : Nv}   {k87 : Int → Int → Int → Mem → Option (Int × Mem)} (hk87 : ∀ (x2 x3 x4 : Int) (μ : Mem) , SR l G S88 mX9_deepest (k87 x2 x3 x4 μ) jIM 87 [some (vR 61), none, some (vI x2), some (vI x3), some (vI x4)] [] μ) : ∀ (x2 x4 : Int) (μ : Mem), SR l G S88 mX9_deepest (mod_deepest_84 k87 x2 x4 μ) jIM 84 [some (vR 61), none, some (vI x2), none, some (vI x4)] [] μ := by
  intro x2 x4 μ
  unfold mod_deepest_84
  refine sr_iload (pc' := 86) dX9_deepest_84 rfl rfl ?_
  refine sr_istore_n (i := 3) (lv' := [some (vR 61), none, some (vI x2), some (vI x4), some (vI x4)]) (pc' := 87) dX9_deepest_86 rfl rfl (by decide) rfl ?_
  exact hk87 x2 x4 x4 μ
def mod_deepest_87  (k34 : Int → Int → Int → Mem → Option (Int × Mem)) (x2 x3 x4 : Int) (μ : Mem) : Option (Int × Mem) := k34 x2 x3 (wI (x4 + 1)) μ
theorem mod_deepest_87_s {l : Launch} {G : Nv}   {k34 : Int → Int → Int → Mem → Option (Int × Mem)} (hk34 : ∀ (x2 x3 x4 : Int) (μ : Mem) , SR l G S88 mX9_deepest (k34 x2 x3 x4 μ) jIM 34 [some (vR 61), none, some (vI x2), some (vI x3), some (vI x4)] [] μ) : ∀ (x2 x3 x4 : Int) (μ : Mem), SR l G S88 mX9_deepest (mod_deepest_87 k34 x2 x3 x4 μ) jIM 87 [some (vR 61), none, some (vI x2), some (vI x3), some (vI x4)] [] μ := by
  intro x2 x3 x4 μ
  unfold mod_deepest_87
  refine sr_iinc (lv' := [some (vR 61), none, some (vI x2), some (vI x3), some (vI (wI (x4 + 1)))]) (pc' := 90) dX9_deepest_87 rfl (by decide) rfl rfl ?_
  refine sr_goto (pc' := 34) dX9_deepest_90 rfl ?_
  exact hk34 x2 x3 (wI (x4 + 1)) μ
def mod_deepest_34   : Nat → Int → Int → Int → Mem → Option (Int × Mem)
  | 0, _, _, _, _ => none
  | n + 1, x2, x3, x4, μ => if (wI ((wI (3 * (μ 61 2))) + 3)) ≤ x4 then (if x2 = 0 then ((ld μ 79 63 x3).bind fun v1 => some (v1, μ)) else (some (x3, μ))) else ((mod_hasRut μ (iDiv x4 3) (iRem x4 3)).bind fun u2 => if u2 = 0 then (mod_deepest_87 (mod_deepest_34 n) x2 x3 x4 μ) else (if x3 = (-4) then (mod_deepest_84 (mod_deepest_87 (mod_deepest_34 n)) x2 x4 μ) else ((ld μ 79 63 x4).bind fun v3 => (ld μ 79 63 x3).bind fun v4 => if v3 ≤ v4 then (mod_deepest_87 (mod_deepest_34 n) x2 x3 x4 μ) else (mod_deepest_84 (mod_deepest_87 (mod_deepest_34 n)) x2 x4 μ))))
theorem mod_deepest_34_s {l : Launch} {G : Nv}     : ∀ (n : Nat) (x2 x3 x4 : Int) (μ : Mem), SR l G S88 mX9_deepest (mod_deepest_34 n x2 x3 x4 μ) jIM 34 [some (vR 61), none, some (vI x2), some (vI x3), some (vI x4)] [] μ := by
  intro n
  induction n with
  | zero => intro x2 x3 x4 μ; exact sr_none
  | succ n ih =>
    intro x2 x3 x4 μ
    rw [mod_deepest_34.eq_2]
    refine sr_iload (pc' := 36) dX9_deepest_34 rfl rfl ?_
    refine sr_iconst (pc' := 37) dX9_deepest_36 rfl (by decide) ?_
    refine sr_aload_n (i := 0) (pc' := 38) dX9_deepest_37 rfl rfl rfl ?_
    refine sr_getI (k := 2) (pc' := 41) cls_X9 dX9_deepest_38 rfl s88_61 rfl (by decide) w_339 ?_
    refine sr_imul (pc' := 42) dX9_deepest_41 rfl ?_
    refine sr_iconst (pc' := 43) dX9_deepest_42 rfl (by decide) ?_
    refine sr_iadd (pc' := 44) dX9_deepest_43 rfl ?_
    refine sr_icmp_ge (pc' := 47) (tgt := 93) dX9_deepest_44 rfl rfl (fun c44 => ?_) (fun c44 => ?_)
    · refine sr_iload_n (i := 2) (pc' := 94) dX9_deepest_93 rfl rfl rfl ?_
      refine sr_if_ne (pc' := 97) (tgt := 106) dX9_deepest_94 rfl rfl (fun c94 => ?_) (fun c94 => ?_)
      · refine sr_aload_n (i := 0) (pc' := 98) dX9_deepest_97 rfl rfl rfl ?_
        refine sr_getR (k := 29) (b := 79) (pc' := 101) cls_X9 dX9_deepest_98 rfl s88_61 rfl (by decide) w_312 ?_
        refine sr_iload_n (i := 3) (pc' := 102) dX9_deepest_101 rfl rfl rfl ?_
        refine sr_iald (pc' := 103) dX9_deepest_102 rfl s88_79 (by decide) (fun v1 hv1 hv1a hv1b => ?_)
        refine sr_goto (pc' := 107) dX9_deepest_103 rfl ?_
        exact sr_iretI dX9_deepest_107 rfl rfl
      · refine sr_iload_n (i := 3) (pc' := 107) dX9_deepest_106 rfl rfl rfl ?_
        exact sr_iretI dX9_deepest_107 rfl rfl
    · refine sr_aload_n (i := 0) (pc' := 48) dX9_deepest_47 rfl rfl rfl ?_
      refine sr_iload (pc' := 50) dX9_deepest_48 rfl rfl ?_
      refine sr_iconst (pc' := 51) dX9_deepest_50 rfl (by decide) ?_
      refine sr_idiv (pc' := 52) dX9_deepest_51 rfl (by decide) ?_
      refine sr_iload (pc' := 54) dX9_deepest_52 rfl rfl ?_
      refine sr_iconst (pc' := 55) dX9_deepest_54 rfl (by decide) ?_
      refine sr_irem (pc' := 56) dX9_deepest_55 rfl (by decide) ?_
      refine sr_callV2_I (pc' := 59) (mod_hasRut_sp (iDiv x4 3) (iRem x4 3) μ) dX9_deepest_56 rfl mg_X9_hasRut mi_X9_hasRut (Or.inl ⟨9, _, TX9, 40, s88_61, rfl⟩) ⟨Nat.le_of_ble_eq_true rfl, Nat.le_of_ble_eq_true rfl⟩ w_323 (Nat.le_of_ble_eq_true rfl) (fun u2 hu2 hcu2 hzu2 => ?_)
      refine sr_if_eq (pc' := 62) (tgt := 87) dX9_deepest_59 rfl rfl (fun c59 => ?_) (fun c59 => ?_)
      · exact mod_deepest_87_s ih x2 x3 x4 μ
      · refine sr_iload_n (i := 3) (pc' := 63) dX9_deepest_62 rfl rfl rfl ?_
        refine sr_bipush (pc' := 65) dX9_deepest_63 rfl (by decide) (by decide) ?_
        refine sr_icmp_eq (pc' := 68) (tgt := 84) dX9_deepest_65 rfl rfl (fun c65 => ?_) (fun c65 => ?_)
        · refine sr_fgt (fgt_s (fgt_s (fgt_s (fgt_n (fgt_s fgt_nil))))) ?_
          exact mod_deepest_84_s (mod_deepest_87_s ih) x2 x4 μ
        · refine sr_aload_n (i := 0) (pc' := 69) dX9_deepest_68 rfl rfl rfl ?_
          refine sr_getR (k := 29) (b := 79) (pc' := 72) cls_X9 dX9_deepest_69 rfl s88_61 rfl (by decide) w_312 ?_
          refine sr_iload (pc' := 74) dX9_deepest_72 rfl rfl ?_
          refine sr_iald (pc' := 75) dX9_deepest_74 rfl s88_79 (by decide) (fun v3 hv3 hv3a hv3b => ?_)
          refine sr_aload_n (i := 0) (pc' := 76) dX9_deepest_75 rfl rfl rfl ?_
          refine sr_getR (k := 29) (b := 79) (pc' := 79) cls_X9 dX9_deepest_76 rfl s88_61 rfl (by decide) w_312 ?_
          refine sr_iload_n (i := 3) (pc' := 80) dX9_deepest_79 rfl rfl rfl ?_
          refine sr_iald (pc' := 81) dX9_deepest_80 rfl s88_79 (by decide) (fun v4 hv4 hv4a hv4b => ?_)
          refine sr_icmp_le (pc' := 84) (tgt := 87) dX9_deepest_81 rfl rfl (fun c81 => ?_) (fun c81 => ?_)
          · exact mod_deepest_87_s ih x2 x3 x4 μ
          · refine sr_fgt (fgt_s (fgt_s (fgt_s (fgt_n (fgt_s fgt_nil))))) ?_
            exact mod_deepest_84_s (mod_deepest_87_s ih) x2 x4 μ
def mod_deepest   (x1 x2 : Int) (μ : Mem) : Option (Int × Mem) := (mod_isTime μ x1).bind fun u1 => if u1 = 0 then (some ((-1), μ)) else ((mod_in μ x2 0 1).bind fun u2 => if u2 = 0 then (some ((-1), μ)) else ((mod_byNumbers μ).bind fun μ3 => (mod_runs x1 μ3).bind fun μ4 => mod_deepest_34 BIG x2 (-4) 0 μ4))
theorem mod_deepest_sp {l : Launch} {G : Nv}   (x1 x2 : Int) (μ : Mem) : SP l G S88 mX9_deepest [vR 61, vI x1, vI x2] μ (mod_deepest x1 x2 μ) jIM := by
  refine sp_go (lv := [some (vR 61), some (vI x1), some (vI x2), none, none]) pn_X9 (Nat.le_of_ble_eq_true rfl) rfl ?_
  unfold mod_deepest
  refine sr_iload_n (i := 1) (pc' := 1) dX9_deepest_0 rfl rfl rfl ?_
  refine sr_callS1_I (pc' := 4) (mod_isTime_sp x1 μ) dX9_deepest_1 rfl mg_X9_isTime ms_X9_isTime ⟨Nat.le_of_ble_eq_true rfl, Nat.le_of_ble_eq_true rfl⟩ w_352 (Nat.le_of_ble_eq_true rfl) (fun u1 hu1 hcu1 hzu1 => ?_)
  refine sr_if_eq (pc' := 7) (tgt := 17) dX9_deepest_4 rfl rfl (fun c4 => ?_) (fun c4 => ?_)
  · refine sr_iconst (pc' := 18) dX9_deepest_17 rfl (by decide) ?_
    exact sr_iretI dX9_deepest_18 rfl rfl
  · refine sr_iload_n (i := 2) (pc' := 8) dX9_deepest_7 rfl rfl rfl ?_
    refine sr_i2l (pc' := 9) dX9_deepest_8 rfl ?_
    refine sr_lconst (x := 0) (pc' := 10) dX9_deepest_9 rfl (by decide) rfl ?_
    refine sr_lconst (x := 1) (pc' := 11) dX9_deepest_10 rfl (by decide) rfl ?_
    refine sr_callS3_I (pc' := 14) (mod_in_sp x2 0 1 μ) dX9_deepest_11 rfl mg_X9_in ms_X9_in ⟨Nat.le_of_ble_eq_true rfl, Nat.le_of_ble_eq_true rfl⟩ w_336 (Nat.le_of_ble_eq_true rfl) (fun u2 hu2 hcu2 hzu2 => ?_)
    refine sr_if_ne (pc' := 17) (tgt := 19) dX9_deepest_14 rfl rfl (fun c14 => ?_) (fun c14 => ?_)
    · refine sr_iconst (pc' := 18) dX9_deepest_17 rfl (by decide) ?_
      exact sr_iretI dX9_deepest_18 rfl rfl
    · refine sr_aload_n (i := 0) (pc' := 20) dX9_deepest_19 rfl rfl rfl ?_
      refine sr_callV0_M (pc' := 23) (mod_byNumbers_sp μ) dX9_deepest_20 rfl mg_X9_byNumbers mi_X9_byNumbers (Or.inl ⟨9, _, TX9, 40, s88_61, rfl⟩) ⟨Nat.le_of_ble_eq_true rfl, Nat.le_of_ble_eq_true rfl⟩ w_353 (Nat.le_of_ble_eq_true rfl) (fun μ3 hμ3 => ?_)
      refine sr_aload_n (i := 0) (pc' := 24) dX9_deepest_23 rfl rfl rfl ?_
      refine sr_iload_n (i := 1) (pc' := 25) dX9_deepest_24 rfl rfl rfl ?_
      refine sr_callV1_M (pc' := 28) (mod_runs_sp x1 μ3) dX9_deepest_25 rfl mg_X9_runs mi_X9_runs (Or.inl ⟨9, _, TX9, 40, s88_61, rfl⟩) ⟨Nat.le_of_ble_eq_true rfl, Nat.le_of_ble_eq_true rfl⟩ w_328 (Nat.le_of_ble_eq_true rfl) (fun μ4 hμ4 => ?_)
      refine sr_bipush (pc' := 30) dX9_deepest_28 rfl (by decide) (by decide) ?_
      refine sr_istore_n (i := 3) (lv' := [some (vR 61), some (vI x1), some (vI x2), some (vI (-4)), none]) (pc' := 31) dX9_deepest_30 rfl rfl (by decide) rfl ?_
      refine sr_iconst (pc' := 32) dX9_deepest_31 rfl (by decide) ?_
      refine sr_istore (lv' := [some (vR 61), some (vI x1), some (vI x2), some (vI (-4)), some (vI 0)]) (pc' := 34) dX9_deepest_32 rfl (by decide) rfl ?_
      refine sr_fgt (fgt_s (fgt_n (fgt_s (fgt_s (fgt_s fgt_nil))))) ?_
      exact mod_deepest_34_s BIG x2 (-4) 0 μ4
def mod_isWidth (μ : Mem)  (x0 : Int) : Option (Int) := (mod_in μ x0 0 2).bind fun u1 => some u1
theorem mod_isWidth_sp {l : Launch} {G : Nv} {Sh : Shp}   (x0 : Int) (μ : Mem) : SP l G Sh mX9_isWidth [vI x0] μ (mod_isWidth μ x0) (jI μ) := by
  refine sp_go (lv := [some (vI x0)]) pn_X9 (Nat.le_of_ble_eq_true rfl) rfl ?_
  unfold mod_isWidth
  refine sr_iload_n (i := 0) (pc' := 1) dX9_isWidth_0 rfl rfl rfl ?_
  refine sr_i2l (pc' := 2) dX9_isWidth_1 rfl ?_
  refine sr_lconst (x := 0) (pc' := 3) dX9_isWidth_2 rfl (by decide) rfl ?_
  refine sr_ldc2 (x := 2) (pc' := 6) dX9_isWidth_3 rfl (by decide) w_354 ?_
  refine sr_callS3_I (pc' := 9) (mod_in_sp x0 0 2 μ) dX9_isWidth_6 rfl mg_X9_in ms_X9_in ⟨Nat.le_of_ble_eq_true rfl, Nat.le_of_ble_eq_true rfl⟩ w_336 (Nat.le_of_ble_eq_true rfl) (fun u1 hu1 hcu1 hzu1 => ?_)
  exact sr_iretZ dX9_isWidth_9 rfl (hzu1 rfl)  rfl
def mod_depth   (x1 x2 x3 : Int) (μ : Mem) : Option (Int × Mem) := (mod_isYard μ x1).bind fun u1 => if u1 = 0 then (some ((-1), μ)) else ((mod_isWidth μ x2).bind fun u2 => if u2 = 0 then (some ((-1), μ)) else ((mod_isTime μ x3).bind fun u3 => if u3 = 0 then (some ((-1), μ)) else ((mod_hasRut μ x1 x2).bind fun u4 => if u4 = 0 then (some ((-4), μ)) else ((mod_byNumbers μ).bind fun μ5 => (mod_runs x3 μ5).bind fun μ6 => (ld μ6 79 63 (wI ((wI (3 * x1)) + x2))).bind fun v7 => some (v7, μ6)))))
theorem mod_depth_sp {l : Launch} {G : Nv}   (x1 x2 x3 : Int) (μ : Mem) : SP l G S88 mX9_depth [vR 61, vI x1, vI x2, vI x3] μ (mod_depth x1 x2 x3 μ) jIM := by
  refine sp_go (lv := [some (vR 61), some (vI x1), some (vI x2), some (vI x3)]) pn_X9 (Nat.le_of_ble_eq_true rfl) rfl ?_
  unfold mod_depth
  refine sr_aload_n (i := 0) (pc' := 1) dX9_depth_0 rfl rfl rfl ?_
  refine sr_iload_n (i := 1) (pc' := 2) dX9_depth_1 rfl rfl rfl ?_
  refine sr_callV1_I (pc' := 5) (mod_isYard_sp x1 μ) dX9_depth_2 rfl mg_X9_isYard mi_X9_isYard (Or.inl ⟨9, _, TX9, 40, s88_61, rfl⟩) ⟨Nat.le_of_ble_eq_true rfl, Nat.le_of_ble_eq_true rfl⟩ w_340 (Nat.le_of_ble_eq_true rfl) (fun u1 hu1 hcu1 hzu1 => ?_)
  refine sr_if_eq (pc' := 8) (tgt := 22) dX9_depth_5 rfl rfl (fun c5 => ?_) (fun c5 => ?_)
  · refine sr_iconst (pc' := 23) dX9_depth_22 rfl (by decide) ?_
    exact sr_iretI dX9_depth_23 rfl rfl
  · refine sr_iload_n (i := 2) (pc' := 9) dX9_depth_8 rfl rfl rfl ?_
    refine sr_callS1_I (pc' := 12) (mod_isWidth_sp x2 μ) dX9_depth_9 rfl mg_X9_isWidth ms_X9_isWidth ⟨Nat.le_of_ble_eq_true rfl, Nat.le_of_ble_eq_true rfl⟩ w_355 (Nat.le_of_ble_eq_true rfl) (fun u2 hu2 hcu2 hzu2 => ?_)
    refine sr_if_eq (pc' := 15) (tgt := 22) dX9_depth_12 rfl rfl (fun c12 => ?_) (fun c12 => ?_)
    · refine sr_iconst (pc' := 23) dX9_depth_22 rfl (by decide) ?_
      exact sr_iretI dX9_depth_23 rfl rfl
    · refine sr_iload_n (i := 3) (pc' := 16) dX9_depth_15 rfl rfl rfl ?_
      refine sr_callS1_I (pc' := 19) (mod_isTime_sp x3 μ) dX9_depth_16 rfl mg_X9_isTime ms_X9_isTime ⟨Nat.le_of_ble_eq_true rfl, Nat.le_of_ble_eq_true rfl⟩ w_352 (Nat.le_of_ble_eq_true rfl) (fun u3 hu3 hcu3 hzu3 => ?_)
      refine sr_if_ne (pc' := 22) (tgt := 24) dX9_depth_19 rfl rfl (fun c19 => ?_) (fun c19 => ?_)
      · refine sr_iconst (pc' := 23) dX9_depth_22 rfl (by decide) ?_
        exact sr_iretI dX9_depth_23 rfl rfl
      · refine sr_aload_n (i := 0) (pc' := 25) dX9_depth_24 rfl rfl rfl ?_
        refine sr_iload_n (i := 1) (pc' := 26) dX9_depth_25 rfl rfl rfl ?_
        refine sr_iload_n (i := 2) (pc' := 27) dX9_depth_26 rfl rfl rfl ?_
        refine sr_callV2_I (pc' := 30) (mod_hasRut_sp x1 x2 μ) dX9_depth_27 rfl mg_X9_hasRut mi_X9_hasRut (Or.inl ⟨9, _, TX9, 40, s88_61, rfl⟩) ⟨Nat.le_of_ble_eq_true rfl, Nat.le_of_ble_eq_true rfl⟩ w_323 (Nat.le_of_ble_eq_true rfl) (fun u4 hu4 hcu4 hzu4 => ?_)
        refine sr_if_ne (pc' := 33) (tgt := 36) dX9_depth_30 rfl rfl (fun c30 => ?_) (fun c30 => ?_)
        · refine sr_bipush (pc' := 35) dX9_depth_33 rfl (by decide) (by decide) ?_
          exact sr_iretI dX9_depth_35 rfl rfl
        · refine sr_aload_n (i := 0) (pc' := 37) dX9_depth_36 rfl rfl rfl ?_
          refine sr_callV0_M (pc' := 40) (mod_byNumbers_sp μ) dX9_depth_37 rfl mg_X9_byNumbers mi_X9_byNumbers (Or.inl ⟨9, _, TX9, 40, s88_61, rfl⟩) ⟨Nat.le_of_ble_eq_true rfl, Nat.le_of_ble_eq_true rfl⟩ w_353 (Nat.le_of_ble_eq_true rfl) (fun μ5 hμ5 => ?_)
          refine sr_aload_n (i := 0) (pc' := 41) dX9_depth_40 rfl rfl rfl ?_
          refine sr_iload_n (i := 3) (pc' := 42) dX9_depth_41 rfl rfl rfl ?_
          refine sr_callV1_M (pc' := 45) (mod_runs_sp x3 μ5) dX9_depth_42 rfl mg_X9_runs mi_X9_runs (Or.inl ⟨9, _, TX9, 40, s88_61, rfl⟩) ⟨Nat.le_of_ble_eq_true rfl, Nat.le_of_ble_eq_true rfl⟩ w_328 (Nat.le_of_ble_eq_true rfl) (fun μ6 hμ6 => ?_)
          refine sr_aload_n (i := 0) (pc' := 46) dX9_depth_45 rfl rfl rfl ?_
          refine sr_getR (k := 29) (b := 79) (pc' := 49) cls_X9 dX9_depth_46 rfl s88_61 rfl (by decide) w_312 ?_
          refine sr_iconst (pc' := 50) dX9_depth_49 rfl (by decide) ?_
          refine sr_iload_n (i := 1) (pc' := 51) dX9_depth_50 rfl rfl rfl ?_
          refine sr_imul (pc' := 52) dX9_depth_51 rfl ?_
          refine sr_iload_n (i := 2) (pc' := 53) dX9_depth_52 rfl rfl rfl ?_
          refine sr_iadd (pc' := 54) dX9_depth_53 rfl ?_
          refine sr_iald (pc' := 55) dX9_depth_54 rfl s88_79 (by decide) (fun v7 hv7 hv7a hv7b => ?_)
          exact sr_iretI dX9_depth_55 rfl rfl
def mod_dig   (x1 x2 x3 : Int) (μ : Mem) : Option (Int × Mem) := (mod_isYard μ x1).bind fun u1 => if u1 = 0 then (some ((-1), μ)) else ((mod_isWidth μ x2).bind fun u2 => if u2 = 0 then (some ((-1), μ)) else ((mod_in μ x3 0 99).bind fun u3 => if u3 = 0 then (some ((-1), μ)) else ((mod_hasRut μ x1 x2).bind fun u4 => if u4 = 0 then (some ((-2), μ)) else ((ld μ 62 555 (wI ((wI (36 + (wI (3 * x1)))) + x2))).bind fun v5 => (stx μ 62 555 (wI ((wI (36 + (wI (3 * x1)))) + x2)) x3).bind fun μ6 => some (v5, μ6)))))
theorem mod_dig_sp {l : Launch} {G : Nv}   (x1 x2 x3 : Int) (μ : Mem) : SP l G S88 mX9_dig [vR 61, vI x1, vI x2, vI x3] μ (mod_dig x1 x2 x3 μ) jIM := by
  refine sp_go (lv := [some (vR 61), some (vI x1), some (vI x2), some (vI x3), none]) pn_X9 (Nat.le_of_ble_eq_true rfl) rfl ?_
  unfold mod_dig
  refine sr_aload_n (i := 0) (pc' := 1) dX9_dig_0 rfl rfl rfl ?_
  refine sr_iload_n (i := 1) (pc' := 2) dX9_dig_1 rfl rfl rfl ?_
  refine sr_callV1_I (pc' := 5) (mod_isYard_sp x1 μ) dX9_dig_2 rfl mg_X9_isYard mi_X9_isYard (Or.inl ⟨9, _, TX9, 40, s88_61, rfl⟩) ⟨Nat.le_of_ble_eq_true rfl, Nat.le_of_ble_eq_true rfl⟩ w_340 (Nat.le_of_ble_eq_true rfl) (fun u1 hu1 hcu1 hzu1 => ?_)
  refine sr_if_eq (pc' := 8) (tgt := 27) dX9_dig_5 rfl rfl (fun c5 => ?_) (fun c5 => ?_)
  · refine sr_iconst (pc' := 28) dX9_dig_27 rfl (by decide) ?_
    exact sr_iretI dX9_dig_28 rfl rfl
  · refine sr_iload_n (i := 2) (pc' := 9) dX9_dig_8 rfl rfl rfl ?_
    refine sr_callS1_I (pc' := 12) (mod_isWidth_sp x2 μ) dX9_dig_9 rfl mg_X9_isWidth ms_X9_isWidth ⟨Nat.le_of_ble_eq_true rfl, Nat.le_of_ble_eq_true rfl⟩ w_355 (Nat.le_of_ble_eq_true rfl) (fun u2 hu2 hcu2 hzu2 => ?_)
    refine sr_if_eq (pc' := 15) (tgt := 27) dX9_dig_12 rfl rfl (fun c12 => ?_) (fun c12 => ?_)
    · refine sr_iconst (pc' := 28) dX9_dig_27 rfl (by decide) ?_
      exact sr_iretI dX9_dig_28 rfl rfl
    · refine sr_iload_n (i := 3) (pc' := 16) dX9_dig_15 rfl rfl rfl ?_
      refine sr_i2l (pc' := 17) dX9_dig_16 rfl ?_
      refine sr_lconst (x := 0) (pc' := 18) dX9_dig_17 rfl (by decide) rfl ?_
      refine sr_ldc2 (x := 99) (pc' := 21) dX9_dig_18 rfl (by decide) w_356 ?_
      refine sr_callS3_I (pc' := 24) (mod_in_sp x3 0 99 μ) dX9_dig_21 rfl mg_X9_in ms_X9_in ⟨Nat.le_of_ble_eq_true rfl, Nat.le_of_ble_eq_true rfl⟩ w_336 (Nat.le_of_ble_eq_true rfl) (fun u3 hu3 hcu3 hzu3 => ?_)
      refine sr_if_ne (pc' := 27) (tgt := 29) dX9_dig_24 rfl rfl (fun c24 => ?_) (fun c24 => ?_)
      · refine sr_iconst (pc' := 28) dX9_dig_27 rfl (by decide) ?_
        exact sr_iretI dX9_dig_28 rfl rfl
      · refine sr_aload_n (i := 0) (pc' := 30) dX9_dig_29 rfl rfl rfl ?_
        refine sr_iload_n (i := 1) (pc' := 31) dX9_dig_30 rfl rfl rfl ?_
        refine sr_iload_n (i := 2) (pc' := 32) dX9_dig_31 rfl rfl rfl ?_
        refine sr_callV2_I (pc' := 35) (mod_hasRut_sp x1 x2 μ) dX9_dig_32 rfl mg_X9_hasRut mi_X9_hasRut (Or.inl ⟨9, _, TX9, 40, s88_61, rfl⟩) ⟨Nat.le_of_ble_eq_true rfl, Nat.le_of_ble_eq_true rfl⟩ w_323 (Nat.le_of_ble_eq_true rfl) (fun u4 hu4 hcu4 hzu4 => ?_)
        refine sr_if_ne (pc' := 38) (tgt := 41) dX9_dig_35 rfl rfl (fun c35 => ?_) (fun c35 => ?_)
        · refine sr_bipush (pc' := 40) dX9_dig_38 rfl (by decide) (by decide) ?_
          exact sr_iretI dX9_dig_40 rfl rfl
        · refine sr_aload_n (i := 0) (pc' := 42) dX9_dig_41 rfl rfl rfl ?_
          refine sr_getR (k := 0) (b := 62) (pc' := 45) cls_X9 dX9_dig_42 rfl s88_61 rfl (by decide) w_311 ?_
          refine sr_bipush (pc' := 47) dX9_dig_45 rfl (by decide) (by decide) ?_
          refine sr_iconst (pc' := 48) dX9_dig_47 rfl (by decide) ?_
          refine sr_iload_n (i := 1) (pc' := 49) dX9_dig_48 rfl rfl rfl ?_
          refine sr_imul (pc' := 50) dX9_dig_49 rfl ?_
          refine sr_iadd (pc' := 51) dX9_dig_50 rfl ?_
          refine sr_iload_n (i := 2) (pc' := 52) dX9_dig_51 rfl rfl rfl ?_
          refine sr_iadd (pc' := 53) dX9_dig_52 rfl ?_
          refine sr_iald (pc' := 54) dX9_dig_53 rfl s88_62 (by decide) (fun v5 hv5 hv5a hv5b => ?_)
          refine sr_istore (lv' := [some (vR 61), some (vI x1), some (vI x2), some (vI x3), some (vI v5)]) (pc' := 56) dX9_dig_54 rfl (by decide) rfl ?_
          refine sr_aload_n (i := 0) (pc' := 57) dX9_dig_56 rfl rfl rfl ?_
          refine sr_getR (k := 0) (b := 62) (pc' := 60) cls_X9 dX9_dig_57 rfl s88_61 rfl (by decide) w_311 ?_
          refine sr_bipush (pc' := 62) dX9_dig_60 rfl (by decide) (by decide) ?_
          refine sr_iconst (pc' := 63) dX9_dig_62 rfl (by decide) ?_
          refine sr_iload_n (i := 1) (pc' := 64) dX9_dig_63 rfl rfl rfl ?_
          refine sr_imul (pc' := 65) dX9_dig_64 rfl ?_
          refine sr_iadd (pc' := 66) dX9_dig_65 rfl ?_
          refine sr_iload_n (i := 2) (pc' := 67) dX9_dig_66 rfl rfl rfl ?_
          refine sr_iadd (pc' := 68) dX9_dig_67 rfl ?_
          refine sr_iload_n (i := 3) (pc' := 69) dX9_dig_68 rfl rfl rfl ?_
          refine sr_iast (pc' := 70) dX9_dig_69 rfl s88_62 (by decide) (fun μ6 hμ6 hμ6a hμ6b => ?_)
          refine sr_iload (pc' := 72) dX9_dig_70 rfl rfl ?_
          exact sr_iretI dX9_dig_72 rfl rfl
def mod_done   (x1 : Int) (μ : Mem) : Option (Int × Mem) := (mod_isCart μ x1).bind fun u1 => if u1 = 0 then (some ((-1), μ)) else ((mod_byNumbers μ).bind fun μ2 => (mod_runs 60 μ2).bind fun μ3 => (ld μ3 78 5 x1).bind fun v4 => some (v4, μ3))
theorem mod_done_sp {l : Launch} {G : Nv}   (x1 : Int) (μ : Mem) : SP l G S88 mX9_done [vR 61, vI x1] μ (mod_done x1 μ) jIM := by
  refine sp_go (lv := [some (vR 61), some (vI x1)]) pn_X9 (Nat.le_of_ble_eq_true rfl) rfl ?_
  unfold mod_done
  refine sr_aload_n (i := 0) (pc' := 1) dX9_done_0 rfl rfl rfl ?_
  refine sr_iload_n (i := 1) (pc' := 2) dX9_done_1 rfl rfl rfl ?_
  refine sr_callV1_I (pc' := 5) (mod_isCart_sp x1 μ) dX9_done_2 rfl mg_X9_isCart mi_X9_isCart (Or.inl ⟨9, _, TX9, 40, s88_61, rfl⟩) ⟨Nat.le_of_ble_eq_true rfl, Nat.le_of_ble_eq_true rfl⟩ w_345 (Nat.le_of_ble_eq_true rfl) (fun u1 hu1 hcu1 hzu1 => ?_)
  refine sr_if_ne (pc' := 8) (tgt := 10) dX9_done_5 rfl rfl (fun c5 => ?_) (fun c5 => ?_)
  · refine sr_iconst (pc' := 9) dX9_done_8 rfl (by decide) ?_
    exact sr_iretI dX9_done_9 rfl rfl
  · refine sr_aload_n (i := 0) (pc' := 11) dX9_done_10 rfl rfl rfl ?_
    refine sr_callV0_M (pc' := 14) (mod_byNumbers_sp μ) dX9_done_11 rfl mg_X9_byNumbers mi_X9_byNumbers (Or.inl ⟨9, _, TX9, 40, s88_61, rfl⟩) ⟨Nat.le_of_ble_eq_true rfl, Nat.le_of_ble_eq_true rfl⟩ w_353 (Nat.le_of_ble_eq_true rfl) (fun μ2 hμ2 => ?_)
    refine sr_aload_n (i := 0) (pc' := 15) dX9_done_14 rfl rfl rfl ?_
    refine sr_bipush (pc' := 17) dX9_done_15 rfl (by decide) (by decide) ?_
    refine sr_callV1_M (pc' := 20) (mod_runs_sp 60 μ2) dX9_done_17 rfl mg_X9_runs mi_X9_runs (Or.inl ⟨9, _, TX9, 40, s88_61, rfl⟩) ⟨Nat.le_of_ble_eq_true rfl, Nat.le_of_ble_eq_true rfl⟩ w_328 (Nat.le_of_ble_eq_true rfl) (fun μ3 hμ3 => ?_)
    refine sr_aload_n (i := 0) (pc' := 21) dX9_done_20 rfl rfl rfl ?_
    refine sr_getR (k := 28) (b := 78) (pc' := 24) cls_X9 dX9_done_21 rfl s88_61 rfl (by decide) w_317 ?_
    refine sr_iload_n (i := 1) (pc' := 25) dX9_done_24 rfl rfl rfl ?_
    refine sr_iald (pc' := 26) dX9_done_25 rfl s88_78 (by decide) (fun v4 hv4 hv4a hv4b => ?_)
    exact sr_iretI dX9_done_26 rfl rfl
def mod_end   (x1 : Int) (μ : Mem) : Option (Int × Mem) := (mod_in μ x1 0 (μ 61 18)).bind fun u1 => if u1 = 0 then (some ((-1), μ)) else (bnd (μ 61 18) fun v2 => bnd (mset μ 61 18 x1) fun μ3 => some (v2, μ3))
theorem mod_end_sp {l : Launch} {G : Nv}   (x1 : Int) (μ : Mem) : SP l G S88 mX9_end [vR 61, vI x1] μ (mod_end x1 μ) jIM := by
  refine sp_go (lv := [some (vR 61), some (vI x1), none]) pn_X9 (Nat.le_of_ble_eq_true rfl) rfl ?_
  unfold mod_end
  refine sr_iload_n (i := 1) (pc' := 1) dX9_end_0 rfl rfl rfl ?_
  refine sr_i2l (pc' := 2) dX9_end_1 rfl ?_
  refine sr_lconst (x := 0) (pc' := 3) dX9_end_2 rfl (by decide) rfl ?_
  refine sr_aload_n (i := 0) (pc' := 4) dX9_end_3 rfl rfl rfl ?_
  refine sr_getI (k := 18) (pc' := 7) cls_X9 dX9_end_4 rfl s88_61 rfl (by decide) w_348 ?_
  refine sr_i2l (pc' := 8) dX9_end_7 rfl ?_
  refine sr_callS3_I (pc' := 11) (mod_in_sp x1 0 (μ 61 18) μ) dX9_end_8 rfl mg_X9_in ms_X9_in ⟨Nat.le_of_ble_eq_true rfl, Nat.le_of_ble_eq_true rfl⟩ w_336 (Nat.le_of_ble_eq_true rfl) (fun u1 hu1 hcu1 hzu1 => ?_)
  refine sr_if_ne (pc' := 14) (tgt := 16) dX9_end_11 rfl rfl (fun c11 => ?_) (fun c11 => ?_)
  · refine sr_iconst (pc' := 15) dX9_end_14 rfl (by decide) ?_
    exact sr_iretI dX9_end_15 rfl rfl
  · refine sr_aload_n (i := 0) (pc' := 17) dX9_end_16 rfl rfl rfl ?_
    refine sr_getI (k := 18) (pc' := 20) cls_X9 dX9_end_17 rfl s88_61 rfl (by decide) w_348 ?_
    refine sr_bnd (fun v2 hv2 => ?_)
    refine sr_istore_n (i := 2) (lv' := [some (vR 61), some (vI x1), some (vI v2)]) (pc' := 21) dX9_end_20 rfl rfl (by decide) rfl ?_
    refine sr_aload_n (i := 0) (pc' := 22) dX9_end_21 rfl rfl rfl ?_
    refine sr_iload_n (i := 1) (pc' := 23) dX9_end_22 rfl rfl rfl ?_
    refine sr_putI (k := 18) (pc' := 26) cls_X9 dX9_end_23 rfl s88_61 rfl (by decide) w_348 rfl rfl (fun μ3 hμ3 => ?_)
    refine sr_iload_n (i := 2) (pc' := 27) dX9_end_26 rfl rfl rfl ?_
    exact sr_iretI dX9_end_27 rfl rfl
def mod_look (μ : Mem)  (x1 : Int) : Option (Int) := if (μ 61 18) ≤ x1 then (some (-1)) else ((ld μ 74 400 x1).bind fun v1 => some v1)
theorem mod_look_sp {l : Launch} {G : Nv}   (x1 : Int) (μ : Mem) : SP l G S88 mX9_look [vR 61, vI x1] μ (mod_look μ x1) (jI μ) := by
  refine sp_go (lv := [some (vR 61), some (vI x1)]) pn_X9 (Nat.le_of_ble_eq_true rfl) rfl ?_
  unfold mod_look
  refine sr_iload_n (i := 1) (pc' := 1) dX9_look_0 rfl rfl rfl ?_
  refine sr_aload_n (i := 0) (pc' := 2) dX9_look_1 rfl rfl rfl ?_
  refine sr_getI (k := 18) (pc' := 5) cls_X9 dX9_look_2 rfl s88_61 rfl (by decide) w_348 ?_
  refine sr_icmp_ge (pc' := 8) (tgt := 17) dX9_look_5 rfl rfl (fun c5 => ?_) (fun c5 => ?_)
  · refine sr_iconst (pc' := 18) dX9_look_17 rfl (by decide) ?_
    exact sr_iretI dX9_look_18 rfl rfl
  · refine sr_aload_n (i := 0) (pc' := 9) dX9_look_8 rfl rfl rfl ?_
    refine sr_getR (k := 17) (b := 74) (pc' := 12) cls_X9 dX9_look_9 rfl s88_61 rfl (by decide) w_357 ?_
    refine sr_iload_n (i := 1) (pc' := 13) dX9_look_12 rfl rfl rfl ?_
    refine sr_iald (pc' := 14) dX9_look_13 rfl s88_74 (by decide) (fun v1 hv1 hv1a hv1b => ?_)
    refine sr_goto (pc' := 18) dX9_look_14 rfl ?_
    exact sr_iretI dX9_look_18 rfl rfl
def mod_ends_36 (μ : Mem)  (x3 : Int) : Option (Int) := if x3 = 0 then (some 1) else ((mod_look μ (wI ((μ 61 20) + 5))).bind fun u1 => if u1 = x3 then (some 1) else (some 0))
theorem mod_ends_36_s {l : Launch} {G : Nv}   (μ : Mem)   : ∀ (x3 : Int), SR l G S88 mX9_ends (mod_ends_36 μ x3) (jI μ) 36 [some (vR 61), none, none, some (vI x3)] [] μ := by
  intro x3
  unfold mod_ends_36
  refine sr_iload_n (i := 3) (pc' := 37) dX9_ends_36 rfl rfl rfl ?_
  refine sr_if_eq (pc' := 40) (tgt := 54) dX9_ends_37 rfl rfl (fun c37 => ?_) (fun c37 => ?_)
  · refine sr_iconst (pc' := 55) dX9_ends_54 rfl (by decide) ?_
    refine sr_goto (pc' := 59) dX9_ends_55 rfl ?_
    exact sr_iretZ dX9_ends_59 rfl (Or.inr rfl) rfl
  · refine sr_aload_n (i := 0) (pc' := 41) dX9_ends_40 rfl rfl rfl ?_
    refine sr_aload_n (i := 0) (pc' := 42) dX9_ends_41 rfl rfl rfl ?_
    refine sr_getI (k := 20) (pc' := 45) cls_X9 dX9_ends_42 rfl s88_61 rfl (by decide) w_358 ?_
    refine sr_iconst (pc' := 46) dX9_ends_45 rfl (by decide) ?_
    refine sr_iadd (pc' := 47) dX9_ends_46 rfl ?_
    refine sr_callV1_I (pc' := 50) (mod_look_sp (wI ((μ 61 20) + 5)) μ) dX9_ends_47 rfl mg_X9_look mi_X9_look (Or.inl ⟨9, _, TX9, 40, s88_61, rfl⟩) ⟨Nat.le_of_ble_eq_true rfl, Nat.le_of_ble_eq_true rfl⟩ w_359 (Nat.le_of_ble_eq_true rfl) (fun u1 hu1 hcu1 hzu1 => ?_)
    refine sr_iload_n (i := 3) (pc' := 51) dX9_ends_50 rfl rfl rfl ?_
    refine sr_icmp_ne (pc' := 54) (tgt := 58) dX9_ends_51 rfl rfl (fun c51 => ?_) (fun c51 => ?_)
    · refine sr_iconst (pc' := 55) dX9_ends_54 rfl (by decide) ?_
      refine sr_goto (pc' := 59) dX9_ends_55 rfl ?_
      exact sr_iretZ dX9_ends_59 rfl (Or.inr rfl) rfl
    · refine sr_iconst (pc' := 59) dX9_ends_58 rfl (by decide) ?_
      exact sr_iretZ dX9_ends_59 rfl (Or.inl rfl) rfl
def mod_ends_18 (μ : Mem)  (x2 x3 : Int) : Option (Int) := if x2 = 0 then (mod_ends_36 μ x3) else ((mod_look μ (wI ((μ 61 20) + 4))).bind fun u1 => if u1 = x2 then (mod_ends_36 μ x3) else (some 0))
theorem mod_ends_18_s {l : Launch} {G : Nv}   (μ : Mem)   : ∀ (x2 x3 : Int), SR l G S88 mX9_ends (mod_ends_18 μ x2 x3) (jI μ) 18 [some (vR 61), none, some (vI x2), some (vI x3)] [] μ := by
  intro x2 x3
  unfold mod_ends_18
  refine sr_iload_n (i := 2) (pc' := 19) dX9_ends_18 rfl rfl rfl ?_
  refine sr_if_eq (pc' := 22) (tgt := 36) dX9_ends_19 rfl rfl (fun c19 => ?_) (fun c19 => ?_)
  · refine sr_fgt (fgt_s (fgt_s (fgt_n (fgt_s fgt_nil)))) ?_
    exact mod_ends_36_s μ x3
  · refine sr_aload_n (i := 0) (pc' := 23) dX9_ends_22 rfl rfl rfl ?_
    refine sr_aload_n (i := 0) (pc' := 24) dX9_ends_23 rfl rfl rfl ?_
    refine sr_getI (k := 20) (pc' := 27) cls_X9 dX9_ends_24 rfl s88_61 rfl (by decide) w_358 ?_
    refine sr_iconst (pc' := 28) dX9_ends_27 rfl (by decide) ?_
    refine sr_iadd (pc' := 29) dX9_ends_28 rfl ?_
    refine sr_callV1_I (pc' := 32) (mod_look_sp (wI ((μ 61 20) + 4)) μ) dX9_ends_29 rfl mg_X9_look mi_X9_look (Or.inl ⟨9, _, TX9, 40, s88_61, rfl⟩) ⟨Nat.le_of_ble_eq_true rfl, Nat.le_of_ble_eq_true rfl⟩ w_359 (Nat.le_of_ble_eq_true rfl) (fun u1 hu1 hcu1 hzu1 => ?_)
    refine sr_iload_n (i := 2) (pc' := 33) dX9_ends_32 rfl rfl rfl ?_
    refine sr_icmp_ne (pc' := 36) (tgt := 58) dX9_ends_33 rfl rfl (fun c33 => ?_) (fun c33 => ?_)
    · refine sr_fgt (fgt_s (fgt_s (fgt_n (fgt_s fgt_nil)))) ?_
      exact mod_ends_36_s μ x3
    · refine sr_iconst (pc' := 59) dX9_ends_58 rfl (by decide) ?_
      exact sr_iretZ dX9_ends_59 rfl (Or.inl rfl) rfl
def mod_ends (μ : Mem)  (x1 x2 x3 : Int) : Option (Int) := if x1 = 0 then (mod_ends_18 μ x2 x3) else ((mod_look μ (wI ((μ 61 20) + 3))).bind fun u1 => if u1 = x1 then (mod_ends_18 μ x2 x3) else (some 0))
theorem mod_ends_sp {l : Launch} {G : Nv}   (x1 x2 x3 : Int) (μ : Mem) : SP l G S88 mX9_ends [vR 61, vI x1, vI x2, vI x3] μ (mod_ends μ x1 x2 x3) (jI μ) := by
  refine sp_go (lv := [some (vR 61), some (vI x1), some (vI x2), some (vI x3)]) pn_X9 (Nat.le_of_ble_eq_true rfl) rfl ?_
  unfold mod_ends
  refine sr_iload_n (i := 1) (pc' := 1) dX9_ends_0 rfl rfl rfl ?_
  refine sr_if_eq (pc' := 4) (tgt := 18) dX9_ends_1 rfl rfl (fun c1 => ?_) (fun c1 => ?_)
  · refine sr_fgt (fgt_s (fgt_n (fgt_s (fgt_s fgt_nil)))) ?_
    exact mod_ends_18_s μ x2 x3
  · refine sr_aload_n (i := 0) (pc' := 5) dX9_ends_4 rfl rfl rfl ?_
    refine sr_aload_n (i := 0) (pc' := 6) dX9_ends_5 rfl rfl rfl ?_
    refine sr_getI (k := 20) (pc' := 9) cls_X9 dX9_ends_6 rfl s88_61 rfl (by decide) w_358 ?_
    refine sr_iconst (pc' := 10) dX9_ends_9 rfl (by decide) ?_
    refine sr_iadd (pc' := 11) dX9_ends_10 rfl ?_
    refine sr_callV1_I (pc' := 14) (mod_look_sp (wI ((μ 61 20) + 3)) μ) dX9_ends_11 rfl mg_X9_look mi_X9_look (Or.inl ⟨9, _, TX9, 40, s88_61, rfl⟩) ⟨Nat.le_of_ble_eq_true rfl, Nat.le_of_ble_eq_true rfl⟩ w_359 (Nat.le_of_ble_eq_true rfl) (fun u1 hu1 hcu1 hzu1 => ?_)
    refine sr_iload_n (i := 1) (pc' := 15) dX9_ends_14 rfl rfl rfl ?_
    refine sr_icmp_ne (pc' := 18) (tgt := 58) dX9_ends_15 rfl rfl (fun c15 => ?_) (fun c15 => ?_)
    · refine sr_fgt (fgt_s (fgt_n (fgt_s (fgt_s fgt_nil)))) ?_
      exact mod_ends_18_s μ x2 x3
    · refine sr_iconst (pc' := 59) dX9_ends_58 rfl (by decide) ?_
      exact sr_iretZ dX9_ends_59 rfl (Or.inl rfl) rfl
def mod_fault (μ : Mem)  : Option (Int) := some (μ 61 23)
theorem mod_fault_sp {l : Launch} {G : Nv}   (μ : Mem) : SP l G S88 mX9_fault [vR 61] μ (mod_fault μ) (jI μ) := by
  refine sp_go (lv := [some (vR 61)]) pn_X9 (Nat.le_of_ble_eq_true rfl) rfl ?_
  unfold mod_fault
  refine sr_aload_n (i := 0) (pc' := 1) dX9_fault_0 rfl rfl rfl ?_
  refine sr_getI (k := 23) (pc' := 4) cls_X9 dX9_fault_1 rfl s88_61 rfl (by decide) w_360 ?_
  exact sr_iretI dX9_fault_4 rfl rfl
def mod_feed_19   : Nat → Int → Int → Mem → Option (Int × Mem)
  | 0, _, _, _ => none
  | n + 1, x1, x3, μ => if x3 < 0 then (some (μ 61 18, μ)) else ((stx μ 74 400 (μ 61 18) (l2i (lAnd (lShr x1 x3) 255))).bind fun μ1 => bnd (mset μ1 61 18 (wI ((μ1 61 18) + 1))) fun μ2 => mod_feed_19 n x1 (wI (x3 + (-8))) μ2)
theorem mod_feed_19_s {l : Launch} {G : Nv}     : ∀ (n : Nat) (x1 x3 : Int) (μ : Mem), SR l G S88 mX9_feed (mod_feed_19 n x1 x3 μ) jIM 19 [some (vR 61), some (vL x1), none, some (vI x3)] [] μ := by
  intro n
  induction n with
  | zero => intro x1 x3 μ; exact sr_none
  | succ n ih =>
    intro x1 x3 μ
    rw [mod_feed_19.eq_2]
    refine sr_iload_n (i := 3) (pc' := 20) dX9_feed_19 rfl rfl rfl ?_
    refine sr_if_lt (pc' := 23) (tgt := 56) dX9_feed_20 rfl rfl (fun c20 => ?_) (fun c20 => ?_)
    · refine sr_aload_n (i := 0) (pc' := 57) dX9_feed_56 rfl rfl rfl ?_
      refine sr_getI (k := 18) (pc' := 60) cls_X9 dX9_feed_57 rfl s88_61 rfl (by decide) w_348 ?_
      exact sr_iretI dX9_feed_60 rfl rfl
    · refine sr_aload_n (i := 0) (pc' := 24) dX9_feed_23 rfl rfl rfl ?_
      refine sr_getR (k := 17) (b := 74) (pc' := 27) cls_X9 dX9_feed_24 rfl s88_61 rfl (by decide) w_357 ?_
      refine sr_aload_n (i := 0) (pc' := 28) dX9_feed_27 rfl rfl rfl ?_
      refine sr_getI (k := 18) (pc' := 31) cls_X9 dX9_feed_28 rfl s88_61 rfl (by decide) w_348 ?_
      refine sr_lload_n (i := 1) (pc' := 32) dX9_feed_31 rfl rfl rfl ?_
      refine sr_iload_n (i := 3) (pc' := 33) dX9_feed_32 rfl rfl rfl ?_
      refine sr_lshr (pc' := 34) dX9_feed_33 rfl ?_
      refine sr_ldc2 (x := 255) (pc' := 37) dX9_feed_34 rfl (by decide) w_361 ?_
      refine sr_land (pc' := 38) dX9_feed_37 rfl ?_
      refine sr_l2i (pc' := 39) dX9_feed_38 rfl ?_
      refine sr_iast (pc' := 40) dX9_feed_39 rfl s88_74 (by decide) (fun μ1 hμ1 hμ1a hμ1b => ?_)
      refine sr_aload_n (i := 0) (pc' := 41) dX9_feed_40 rfl rfl rfl ?_
      refine sr_dup (pc' := 42) dX9_feed_41 rfl rfl ?_
      refine sr_getI (k := 18) (pc' := 45) cls_X9 dX9_feed_42 rfl s88_61 rfl (by decide) w_348 ?_
      refine sr_iconst (pc' := 46) dX9_feed_45 rfl (by decide) ?_
      refine sr_iadd (pc' := 47) dX9_feed_46 rfl ?_
      refine sr_putI (k := 18) (pc' := 50) cls_X9 dX9_feed_47 rfl s88_61 rfl (by decide) w_348 rfl rfl (fun μ2 hμ2 => ?_)
      refine sr_iinc (lv' := [some (vR 61), some (vL x1), none, some (vI (wI (x3 + (-8))))]) (pc' := 53) dX9_feed_50 rfl (by decide) rfl rfl ?_
      refine sr_goto (pc' := 19) dX9_feed_53 rfl ?_
      exact ih x1 (wI (x3 + (-8))) μ2
def mod_feed   (x1 : Int) (μ : Mem) : Option (Int × Mem) := if (wI ((μ 61 18) + 8)) ≤ 400 then (mod_feed_19 BIG x1 56 μ) else (some ((-3), μ))
theorem mod_feed_sp {l : Launch} {G : Nv}   (x1 : Int) (μ : Mem) : SP l G S88 mX9_feed [vR 61, vL x1] μ (mod_feed x1 μ) jIM := by
  refine sp_go (lv := [some (vR 61), some (vL x1), none, none]) pn_X9 (Nat.le_of_ble_eq_true rfl) rfl ?_
  unfold mod_feed
  refine sr_aload_n (i := 0) (pc' := 1) dX9_feed_0 rfl rfl rfl ?_
  refine sr_getI (k := 18) (pc' := 4) cls_X9 dX9_feed_1 rfl s88_61 rfl (by decide) w_348 ?_
  refine sr_bipush (pc' := 6) dX9_feed_4 rfl (by decide) (by decide) ?_
  refine sr_iadd (pc' := 7) dX9_feed_6 rfl ?_
  refine sr_sipush (pc' := 10) dX9_feed_7 rfl (by decide) (by decide) ?_
  refine sr_icmp_le (pc' := 13) (tgt := 16) dX9_feed_10 rfl rfl (fun c10 => ?_) (fun c10 => ?_)
  · refine sr_bipush (pc' := 18) dX9_feed_16 rfl (by decide) (by decide) ?_
    refine sr_istore_n (i := 3) (lv' := [some (vR 61), some (vL x1), none, some (vI 56)]) (pc' := 19) dX9_feed_18 rfl rfl (by decide) rfl ?_
    exact mod_feed_19_s BIG x1 56 μ
  · refine sr_bipush (pc' := 15) dX9_feed_13 rfl (by decide) (by decide) ?_
    exact sr_iretI dX9_feed_15 rfl rfl
def mod_fill   (x1 : Int) (μ : Mem) : Option (Int × Mem) := (mod_isYard μ x1).bind fun u1 => if u1 = 0 then (some ((-1), μ)) else ((mod_fills x1 μ).bind fun u2 => some (u2.1, u2.2))
theorem mod_fill_sp {l : Launch} {G : Nv}   (x1 : Int) (μ : Mem) : SP l G S88 mX9_fill [vR 61, vI x1] μ (mod_fill x1 μ) jIM := by
  refine sp_go (lv := [some (vR 61), some (vI x1)]) pn_X9 (Nat.le_of_ble_eq_true rfl) rfl ?_
  unfold mod_fill
  refine sr_aload_n (i := 0) (pc' := 1) dX9_fill_0 rfl rfl rfl ?_
  refine sr_iload_n (i := 1) (pc' := 2) dX9_fill_1 rfl rfl rfl ?_
  refine sr_callV1_I (pc' := 5) (mod_isYard_sp x1 μ) dX9_fill_2 rfl mg_X9_isYard mi_X9_isYard (Or.inl ⟨9, _, TX9, 40, s88_61, rfl⟩) ⟨Nat.le_of_ble_eq_true rfl, Nat.le_of_ble_eq_true rfl⟩ w_340 (Nat.le_of_ble_eq_true rfl) (fun u1 hu1 hcu1 hzu1 => ?_)
  refine sr_if_eq (pc' := 8) (tgt := 16) dX9_fill_5 rfl rfl (fun c5 => ?_) (fun c5 => ?_)
  · refine sr_iconst (pc' := 17) dX9_fill_16 rfl (by decide) ?_
    exact sr_iretI dX9_fill_17 rfl rfl
  · refine sr_aload_n (i := 0) (pc' := 9) dX9_fill_8 rfl rfl rfl ?_
    refine sr_iload_n (i := 1) (pc' := 10) dX9_fill_9 rfl rfl rfl ?_
    refine sr_callV1_IM (pc' := 13) (mod_fills_sp x1 μ) dX9_fill_10 rfl mg_X9_fills mi_X9_fills (Or.inl ⟨9, _, TX9, 40, s88_61, rfl⟩) ⟨Nat.le_of_ble_eq_true rfl, Nat.le_of_ble_eq_true rfl⟩ w_331 (Nat.le_of_ble_eq_true rfl) (fun u2 hu2 hcu2 hzu2 => ?_)
    refine sr_goto (pc' := 17) dX9_fill_13 rfl ?_
    exact sr_iretI dX9_fill_17 rfl rfl
def mod_hoursOf (μ : Mem)  (x1 x2 : Int) : Option (Int) := if 2 ≤ x2 then (some 1) else ((mod_of μ x1 0).bind fun u1 => if u1 = 2 then (some 2) else (some 1))
theorem mod_hoursOf_sp {l : Launch} {G : Nv}   (x1 x2 : Int) (μ : Mem) : SP l G S88 mX9_hoursOf [vR 61, vI x1, vI x2] μ (mod_hoursOf μ x1 x2) (jI μ) := by
  refine sp_go (lv := [some (vR 61), some (vI x1), some (vI x2)]) pn_X9 (Nat.le_of_ble_eq_true rfl) rfl ?_
  unfold mod_hoursOf
  refine sr_iload_n (i := 2) (pc' := 1) dX9_hoursOf_0 rfl rfl rfl ?_
  refine sr_iconst (pc' := 2) dX9_hoursOf_1 rfl (by decide) ?_
  refine sr_icmp_ge (pc' := 5) (tgt := 19) dX9_hoursOf_2 rfl rfl (fun c2 => ?_) (fun c2 => ?_)
  · refine sr_iconst (pc' := 20) dX9_hoursOf_19 rfl (by decide) ?_
    exact sr_iretI dX9_hoursOf_20 rfl rfl
  · refine sr_aload_n (i := 0) (pc' := 6) dX9_hoursOf_5 rfl rfl rfl ?_
    refine sr_iload_n (i := 1) (pc' := 7) dX9_hoursOf_6 rfl rfl rfl ?_
    refine sr_iconst (pc' := 8) dX9_hoursOf_7 rfl (by decide) ?_
    refine sr_callV2_I (pc' := 11) (mod_of_sp x1 0 μ) dX9_hoursOf_8 rfl mg_X9_of mi_X9_of (Or.inl ⟨9, _, TX9, 40, s88_61, rfl⟩) ⟨Nat.le_of_ble_eq_true rfl, Nat.le_of_ble_eq_true rfl⟩ w_314 (Nat.le_of_ble_eq_true rfl) (fun u1 hu1 hcu1 hzu1 => ?_)
    refine sr_iconst (pc' := 12) dX9_hoursOf_11 rfl (by decide) ?_
    refine sr_icmp_ne (pc' := 15) (tgt := 19) dX9_hoursOf_12 rfl rfl (fun c12 => ?_) (fun c12 => ?_)
    · refine sr_iconst (pc' := 16) dX9_hoursOf_15 rfl (by decide) ?_
      refine sr_goto (pc' := 20) dX9_hoursOf_16 rfl ?_
      exact sr_iretI dX9_hoursOf_20 rfl rfl
    · refine sr_iconst (pc' := 20) dX9_hoursOf_19 rfl (by decide) ?_
      exact sr_iretI dX9_hoursOf_20 rfl rfl
def mod_keyOf (μ : Mem)  (x1 x2 x3 x4 : Int) : Option (Int) := (mod_coinsOf μ x1 x2 x3).bind fun u1 => (mod_hoursOf μ x1 x3).bind fun u2 => if x4 = 0 then (some (wI ((wI ((wI (1000000 * u1)) + (wI (1000 * u2)))) + 1))) else (some (wI ((wI ((wI (1000000 * u2)) + (wI (1000 * u1)))) + 1)))
theorem mod_keyOf_sp {l : Launch} {G : Nv}   (x1 x2 x3 x4 : Int) (μ : Mem) : SP l G S88 mX9_keyOf [vR 61, vI x1, vI x2, vI x3, vI x4] μ (mod_keyOf μ x1 x2 x3 x4) (jI μ) := by
  refine sp_go (lv := [some (vR 61), some (vI x1), some (vI x2), some (vI x3), some (vI x4), none, none]) pn_X9 (Nat.le_of_ble_eq_true rfl) rfl ?_
  unfold mod_keyOf
  refine sr_aload_n (i := 0) (pc' := 1) dX9_keyOf_0 rfl rfl rfl ?_
  refine sr_iload_n (i := 1) (pc' := 2) dX9_keyOf_1 rfl rfl rfl ?_
  refine sr_iload_n (i := 2) (pc' := 3) dX9_keyOf_2 rfl rfl rfl ?_
  refine sr_iload_n (i := 3) (pc' := 4) dX9_keyOf_3 rfl rfl rfl ?_
  refine sr_callV3_I (pc' := 7) (mod_coinsOf_sp x1 x2 x3 μ) dX9_keyOf_4 rfl mg_X9_coinsOf mi_X9_coinsOf (Or.inl ⟨9, _, TX9, 40, s88_61, rfl⟩) ⟨Nat.le_of_ble_eq_true rfl, Nat.le_of_ble_eq_true rfl⟩ w_362 (Nat.le_of_ble_eq_true rfl) (fun u1 hu1 hcu1 hzu1 => ?_)
  refine sr_istore (lv' := [some (vR 61), some (vI x1), some (vI x2), some (vI x3), some (vI x4), some (vI u1), none]) (pc' := 9) dX9_keyOf_7 rfl (by decide) rfl ?_
  refine sr_aload_n (i := 0) (pc' := 10) dX9_keyOf_9 rfl rfl rfl ?_
  refine sr_iload_n (i := 1) (pc' := 11) dX9_keyOf_10 rfl rfl rfl ?_
  refine sr_iload_n (i := 3) (pc' := 12) dX9_keyOf_11 rfl rfl rfl ?_
  refine sr_callV2_I (pc' := 15) (mod_hoursOf_sp x1 x3 μ) dX9_keyOf_12 rfl mg_X9_hoursOf mi_X9_hoursOf (Or.inl ⟨9, _, TX9, 40, s88_61, rfl⟩) ⟨Nat.le_of_ble_eq_true rfl, Nat.le_of_ble_eq_true rfl⟩ w_363 (Nat.le_of_ble_eq_true rfl) (fun u2 hu2 hcu2 hzu2 => ?_)
  refine sr_istore (lv' := [some (vR 61), some (vI x1), some (vI x2), some (vI x3), some (vI x4), some (vI u1), some (vI u2)]) (pc' := 17) dX9_keyOf_15 rfl (by decide) rfl ?_
  refine sr_iload (pc' := 19) dX9_keyOf_17 rfl rfl ?_
  refine sr_if_ne (pc' := 22) (tgt := 40) dX9_keyOf_19 rfl rfl (fun c19 => ?_) (fun c19 => ?_)
  · refine sr_ldcw (x := 1000000) (pc' := 25) dX9_keyOf_22 rfl (by decide) w_364 ?_
    refine sr_iload (pc' := 27) dX9_keyOf_25 rfl rfl ?_
    refine sr_imul (pc' := 28) dX9_keyOf_27 rfl ?_
    refine sr_sipush (pc' := 31) dX9_keyOf_28 rfl (by decide) (by decide) ?_
    refine sr_iload (pc' := 33) dX9_keyOf_31 rfl rfl ?_
    refine sr_imul (pc' := 34) dX9_keyOf_33 rfl ?_
    refine sr_iadd (pc' := 35) dX9_keyOf_34 rfl ?_
    refine sr_iconst (pc' := 36) dX9_keyOf_35 rfl (by decide) ?_
    refine sr_iadd (pc' := 37) dX9_keyOf_36 rfl ?_
    refine sr_goto (pc' := 55) dX9_keyOf_37 rfl ?_
    exact sr_iretI dX9_keyOf_55 rfl rfl
  · refine sr_ldcw (x := 1000000) (pc' := 43) dX9_keyOf_40 rfl (by decide) w_364 ?_
    refine sr_iload (pc' := 45) dX9_keyOf_43 rfl rfl ?_
    refine sr_imul (pc' := 46) dX9_keyOf_45 rfl ?_
    refine sr_sipush (pc' := 49) dX9_keyOf_46 rfl (by decide) (by decide) ?_
    refine sr_iload (pc' := 51) dX9_keyOf_49 rfl rfl ?_
    refine sr_imul (pc' := 52) dX9_keyOf_51 rfl ?_
    refine sr_iadd (pc' := 53) dX9_keyOf_52 rfl ?_
    refine sr_iconst (pc' := 54) dX9_keyOf_53 rfl (by decide) ?_
    refine sr_iadd (pc' := 55) dX9_keyOf_54 rfl ?_
    exact sr_iretI dX9_keyOf_55 rfl rfl
def mod_findLeast_32  (k2 : Int → Int → Int → Mem → Option (Mem)) (x1 x2 x3 s1 s2 : Int) (μ : Mem) : Option (Mem) := (stx μ 83 63 s1 s2).bind fun μ1 => k2 x1 x2 (wI (x3 + 1)) μ1
theorem mod_findLeast_32_s {l : Launch} {G : Nv}   {k2 : Int → Int → Int → Mem → Option (Mem)} (hk2 : ∀ (x1 x2 x3 : Int) (μ : Mem) , SR l G S88 mX9_findLeast (k2 x1 x2 x3 μ) jM 2 [some (vR 61), some (vI x1), some (vI x2), some (vI x3), none, none, none] [] μ) : ∀ (x1 x2 x3 s1 s2 : Int) (μ : Mem), SR l G S88 mX9_findLeast (mod_findLeast_32 k2 x1 x2 x3 s1 s2 μ) jM 32 [some (vR 61), some (vI x1), some (vI x2), some (vI x3), none, none, none] [vI s2, vI s1, vR 83] μ := by
  intro x1 x2 x3 s1 s2 μ
  unfold mod_findLeast_32
  refine sr_iast (pc' := 33) dX9_findLeast_32 rfl s88_83 (by decide) (fun μ1 hμ1 hμ1a hμ1b => ?_)
  refine sr_iinc (lv' := [some (vR 61), some (vI x1), some (vI x2), some (vI (wI (x3 + 1))), none, none, none]) (pc' := 36) dX9_findLeast_33 rfl (by decide) rfl rfl ?_
  refine sr_goto (pc' := 2) dX9_findLeast_36 rfl ?_
  exact hk2 x1 x2 (wI (x3 + 1)) μ1
def mod_findLeast_158  (k66 : Int → Int → Int → Int → Int → Mem → Option (Mem)) (x1 x2 x3 x4 x5 : Int) (μ : Mem) : Option (Mem) := k66 x1 x2 x3 x4 (wI (x5 + 1)) μ
theorem mod_findLeast_158_s {l : Launch} {G : Nv}   {k66 : Int → Int → Int → Int → Int → Mem → Option (Mem)} (hk66 : ∀ (x1 x2 x3 x4 x5 : Int) (μ : Mem) , SR l G S88 mX9_findLeast (k66 x1 x2 x3 x4 x5 μ) jM 66 [some (vR 61), some (vI x1), some (vI x2), some (vI x3), some (vI x4), some (vI x5), none] [] μ) : ∀ (x1 x2 x3 x4 x5 : Int) (μ : Mem), SR l G S88 mX9_findLeast (mod_findLeast_158 k66 x1 x2 x3 x4 x5 μ) jM 158 [some (vR 61), some (vI x1), some (vI x2), some (vI x3), some (vI x4), some (vI x5), none] [] μ := by
  intro x1 x2 x3 x4 x5 μ
  unfold mod_findLeast_158
  refine sr_iinc (lv' := [some (vR 61), some (vI x1), some (vI x2), some (vI x3), some (vI x4), some (vI (wI (x5 + 1))), none]) (pc' := 161) dX9_findLeast_158 rfl (by decide) rfl rfl ?_
  refine sr_goto (pc' := 66) dX9_findLeast_161 rfl ?_
  exact hk66 x1 x2 x3 x4 (wI (x5 + 1)) μ
def mod_findLeast_66  (k50 : Int → Int → Int → Int → Mem → Option (Mem)) : Nat → Int → Int → Int → Int → Int → Mem → Option (Mem)
  | 0, _, _, _, _, _, _ => none
  | n + 1, x1, x2, x3, x4, x5, μ => if 5 ≤ x5 then (k50 x1 x2 x3 (wI (x4 + 1)) μ) else ((mod_then μ x1 x4 x5).bind fun u1 => if u1 = (-4) then (mod_findLeast_158 (mod_findLeast_66 k50 n) x1 x2 x3 x4 x5 μ) else ((ld μ 83 63 u1).bind fun v2 => if v2 = 1000000000 then (mod_findLeast_158 (mod_findLeast_66 k50 n) x1 x2 x3 x4 x5 μ) else ((ld μ 83 63 u1).bind fun v3 => (mod_keyOf μ x1 x4 x5 x2).bind fun u4 => (ld μ 83 63 x4).bind fun v5 => if v5 ≤ (wI (v3 + u4)) then (mod_findLeast_158 (mod_findLeast_66 k50 n) x1 x2 x3 x4 x5 μ) else ((ld μ 83 63 u1).bind fun v6 => (mod_keyOf μ x1 x4 x5 x2).bind fun u7 => (stx μ 83 63 x4 (wI (v6 + u7))).bind fun μ8 => mod_findLeast_158 (mod_findLeast_66 k50 n) x1 x2 1 x4 x5 μ8))))
theorem mod_findLeast_66_s {l : Launch} {G : Nv}   {k50 : Int → Int → Int → Int → Mem → Option (Mem)} (hk50 : ∀ (x1 x2 x3 x4 : Int) (μ : Mem) , SR l G S88 mX9_findLeast (k50 x1 x2 x3 x4 μ) jM 50 [some (vR 61), some (vI x1), some (vI x2), some (vI x3), some (vI x4), none, none] [] μ) : ∀ (n : Nat) (x1 x2 x3 x4 x5 : Int) (μ : Mem), SR l G S88 mX9_findLeast (mod_findLeast_66 k50 n x1 x2 x3 x4 x5 μ) jM 66 [some (vR 61), some (vI x1), some (vI x2), some (vI x3), some (vI x4), some (vI x5), none] [] μ := by
  intro n
  induction n with
  | zero => intro x1 x2 x3 x4 x5 μ; exact sr_none
  | succ n ih =>
    intro x1 x2 x3 x4 x5 μ
    rw [mod_findLeast_66.eq_2]
    refine sr_iload (pc' := 68) dX9_findLeast_66 rfl rfl ?_
    refine sr_iconst (pc' := 69) dX9_findLeast_68 rfl (by decide) ?_
    refine sr_icmp_ge (pc' := 72) (tgt := 164) dX9_findLeast_69 rfl rfl (fun c69 => ?_) (fun c69 => ?_)
    · refine sr_iinc (lv' := [some (vR 61), some (vI x1), some (vI x2), some (vI x3), some (vI (wI (x4 + 1))), some (vI x5), none]) (pc' := 167) dX9_findLeast_164 rfl (by decide) rfl rfl ?_
      refine sr_goto (pc' := 50) dX9_findLeast_167 rfl ?_
      refine sr_fgt (fgt_s (fgt_s (fgt_s (fgt_s (fgt_s (fgt_n (fgt_s fgt_nil))))))) ?_
      exact hk50 x1 x2 x3 (wI (x4 + 1)) μ
    · refine sr_aload_n (i := 0) (pc' := 73) dX9_findLeast_72 rfl rfl rfl ?_
      refine sr_iload_n (i := 1) (pc' := 74) dX9_findLeast_73 rfl rfl rfl ?_
      refine sr_iload (pc' := 76) dX9_findLeast_74 rfl rfl ?_
      refine sr_iload (pc' := 78) dX9_findLeast_76 rfl rfl ?_
      refine sr_callV3_I (pc' := 81) (mod_then_sp x1 x4 x5 μ) dX9_findLeast_78 rfl mg_X9_then mi_X9_then (Or.inl ⟨9, _, TX9, 40, s88_61, rfl⟩) ⟨Nat.le_of_ble_eq_true rfl, Nat.le_of_ble_eq_true rfl⟩ w_343 (Nat.le_of_ble_eq_true rfl) (fun u1 hu1 hcu1 hzu1 => ?_)
      refine sr_istore (lv' := [some (vR 61), some (vI x1), some (vI x2), some (vI x3), some (vI x4), some (vI x5), some (vI u1)]) (pc' := 83) dX9_findLeast_81 rfl (by decide) rfl ?_
      refine sr_iload (pc' := 85) dX9_findLeast_83 rfl rfl ?_
      refine sr_bipush (pc' := 87) dX9_findLeast_85 rfl (by decide) (by decide) ?_
      refine sr_icmp_eq (pc' := 90) (tgt := 158) dX9_findLeast_87 rfl rfl (fun c87 => ?_) (fun c87 => ?_)
      · refine sr_fgt (fgt_s (fgt_s (fgt_s (fgt_s (fgt_s (fgt_s (fgt_n fgt_nil))))))) ?_
        exact mod_findLeast_158_s ih x1 x2 x3 x4 x5 μ
      · refine sr_aload_n (i := 0) (pc' := 91) dX9_findLeast_90 rfl rfl rfl ?_
        refine sr_getR (k := 34) (b := 83) (pc' := 94) cls_X9 dX9_findLeast_91 rfl s88_61 rfl (by decide) w_365 ?_
        refine sr_iload (pc' := 96) dX9_findLeast_94 rfl rfl ?_
        refine sr_iald (pc' := 97) dX9_findLeast_96 rfl s88_83 (by decide) (fun v2 hv2 hv2a hv2b => ?_)
        refine sr_ldcw (x := 1000000000) (pc' := 100) dX9_findLeast_97 rfl (by decide) w_366 ?_
        refine sr_icmp_eq (pc' := 103) (tgt := 158) dX9_findLeast_100 rfl rfl (fun c100 => ?_) (fun c100 => ?_)
        · refine sr_fgt (fgt_s (fgt_s (fgt_s (fgt_s (fgt_s (fgt_s (fgt_n fgt_nil))))))) ?_
          exact mod_findLeast_158_s ih x1 x2 x3 x4 x5 μ
        · refine sr_aload_n (i := 0) (pc' := 104) dX9_findLeast_103 rfl rfl rfl ?_
          refine sr_getR (k := 34) (b := 83) (pc' := 107) cls_X9 dX9_findLeast_104 rfl s88_61 rfl (by decide) w_365 ?_
          refine sr_iload (pc' := 109) dX9_findLeast_107 rfl rfl ?_
          refine sr_iald (pc' := 110) dX9_findLeast_109 rfl s88_83 (by decide) (fun v3 hv3 hv3a hv3b => ?_)
          refine sr_aload_n (i := 0) (pc' := 111) dX9_findLeast_110 rfl rfl rfl ?_
          refine sr_iload_n (i := 1) (pc' := 112) dX9_findLeast_111 rfl rfl rfl ?_
          refine sr_iload (pc' := 114) dX9_findLeast_112 rfl rfl ?_
          refine sr_iload (pc' := 116) dX9_findLeast_114 rfl rfl ?_
          refine sr_iload_n (i := 2) (pc' := 117) dX9_findLeast_116 rfl rfl rfl ?_
          refine sr_callV4_I (pc' := 120) (mod_keyOf_sp x1 x4 x5 x2 μ) dX9_findLeast_117 rfl mg_X9_keyOf mi_X9_keyOf (Or.inl ⟨9, _, TX9, 40, s88_61, rfl⟩) ⟨Nat.le_of_ble_eq_true rfl, Nat.le_of_ble_eq_true rfl⟩ w_367 (Nat.le_of_ble_eq_true rfl) (fun u4 hu4 hcu4 hzu4 => ?_)
          refine sr_iadd (pc' := 121) dX9_findLeast_120 rfl ?_
          refine sr_aload_n (i := 0) (pc' := 122) dX9_findLeast_121 rfl rfl rfl ?_
          refine sr_getR (k := 34) (b := 83) (pc' := 125) cls_X9 dX9_findLeast_122 rfl s88_61 rfl (by decide) w_365 ?_
          refine sr_iload (pc' := 127) dX9_findLeast_125 rfl rfl ?_
          refine sr_iald (pc' := 128) dX9_findLeast_127 rfl s88_83 (by decide) (fun v5 hv5 hv5a hv5b => ?_)
          refine sr_icmp_ge (pc' := 131) (tgt := 158) dX9_findLeast_128 rfl rfl (fun c128 => ?_) (fun c128 => ?_)
          · refine sr_fgt (fgt_s (fgt_s (fgt_s (fgt_s (fgt_s (fgt_s (fgt_n fgt_nil))))))) ?_
            exact mod_findLeast_158_s ih x1 x2 x3 x4 x5 μ
          · refine sr_aload_n (i := 0) (pc' := 132) dX9_findLeast_131 rfl rfl rfl ?_
            refine sr_getR (k := 34) (b := 83) (pc' := 135) cls_X9 dX9_findLeast_132 rfl s88_61 rfl (by decide) w_365 ?_
            refine sr_iload (pc' := 137) dX9_findLeast_135 rfl rfl ?_
            refine sr_aload_n (i := 0) (pc' := 138) dX9_findLeast_137 rfl rfl rfl ?_
            refine sr_getR (k := 34) (b := 83) (pc' := 141) cls_X9 dX9_findLeast_138 rfl s88_61 rfl (by decide) w_365 ?_
            refine sr_iload (pc' := 143) dX9_findLeast_141 rfl rfl ?_
            refine sr_iald (pc' := 144) dX9_findLeast_143 rfl s88_83 (by decide) (fun v6 hv6 hv6a hv6b => ?_)
            refine sr_aload_n (i := 0) (pc' := 145) dX9_findLeast_144 rfl rfl rfl ?_
            refine sr_iload_n (i := 1) (pc' := 146) dX9_findLeast_145 rfl rfl rfl ?_
            refine sr_iload (pc' := 148) dX9_findLeast_146 rfl rfl ?_
            refine sr_iload (pc' := 150) dX9_findLeast_148 rfl rfl ?_
            refine sr_iload_n (i := 2) (pc' := 151) dX9_findLeast_150 rfl rfl rfl ?_
            refine sr_callV4_I (pc' := 154) (mod_keyOf_sp x1 x4 x5 x2 μ) dX9_findLeast_151 rfl mg_X9_keyOf mi_X9_keyOf (Or.inl ⟨9, _, TX9, 40, s88_61, rfl⟩) ⟨Nat.le_of_ble_eq_true rfl, Nat.le_of_ble_eq_true rfl⟩ w_367 (Nat.le_of_ble_eq_true rfl) (fun u7 hu7 hcu7 hzu7 => ?_)
            refine sr_iadd (pc' := 155) dX9_findLeast_154 rfl ?_
            refine sr_iast (pc' := 156) dX9_findLeast_155 rfl s88_83 (by decide) (fun μ8 hμ8 hμ8a hμ8b => ?_)
            refine sr_iconst (pc' := 157) dX9_findLeast_156 rfl (by decide) ?_
            refine sr_istore_n (i := 3) (lv' := [some (vR 61), some (vI x1), some (vI x2), some (vI 1), some (vI x4), some (vI x5), some (vI u1)]) (pc' := 158) dX9_findLeast_157 rfl rfl (by decide) rfl ?_
            refine sr_fgt (fgt_s (fgt_s (fgt_s (fgt_s (fgt_s (fgt_s (fgt_n fgt_nil))))))) ?_
            exact mod_findLeast_158_s ih x1 x2 1 x4 x5 μ8
def mod_findLeast_50  (k41 : Int → Int → Int → Mem → Option (Mem)) : Nat → Int → Int → Int → Int → Mem → Option (Mem)
  | 0, _, _, _, _, _ => none
  | n + 1, x1, x2, x3, x4, μ => if (wI ((wI (3 * (μ 61 2))) + 3)) ≤ x4 then (k41 x1 x2 x3 μ) else (mod_findLeast_66 (mod_findLeast_50 k41 n) BIG x1 x2 x3 x4 0 μ)
theorem mod_findLeast_50_s {l : Launch} {G : Nv}   {k41 : Int → Int → Int → Mem → Option (Mem)} (hk41 : ∀ (x1 x2 x3 : Int) (μ : Mem) , SR l G S88 mX9_findLeast (k41 x1 x2 x3 μ) jM 41 [some (vR 61), some (vI x1), some (vI x2), some (vI x3), none, none, none] [] μ) : ∀ (n : Nat) (x1 x2 x3 x4 : Int) (μ : Mem), SR l G S88 mX9_findLeast (mod_findLeast_50 k41 n x1 x2 x3 x4 μ) jM 50 [some (vR 61), some (vI x1), some (vI x2), some (vI x3), some (vI x4), none, none] [] μ := by
  intro n
  induction n with
  | zero => intro x1 x2 x3 x4 μ; exact sr_none
  | succ n ih =>
    intro x1 x2 x3 x4 μ
    rw [mod_findLeast_50.eq_2]
    refine sr_iload (pc' := 52) dX9_findLeast_50 rfl rfl ?_
    refine sr_iconst (pc' := 53) dX9_findLeast_52 rfl (by decide) ?_
    refine sr_aload_n (i := 0) (pc' := 54) dX9_findLeast_53 rfl rfl rfl ?_
    refine sr_getI (k := 2) (pc' := 57) cls_X9 dX9_findLeast_54 rfl s88_61 rfl (by decide) w_339 ?_
    refine sr_imul (pc' := 58) dX9_findLeast_57 rfl ?_
    refine sr_iconst (pc' := 59) dX9_findLeast_58 rfl (by decide) ?_
    refine sr_iadd (pc' := 60) dX9_findLeast_59 rfl ?_
    refine sr_icmp_ge (pc' := 63) (tgt := 170) dX9_findLeast_60 rfl rfl (fun c60 => ?_) (fun c60 => ?_)
    · refine sr_goto (pc' := 41) dX9_findLeast_170 rfl ?_
      refine sr_fgt (fgt_s (fgt_s (fgt_s (fgt_s (fgt_n (fgt_s (fgt_s fgt_nil))))))) ?_
      exact hk41 x1 x2 x3 μ
    · refine sr_iconst (pc' := 64) dX9_findLeast_63 rfl (by decide) ?_
      refine sr_istore (lv' := [some (vR 61), some (vI x1), some (vI x2), some (vI x3), some (vI x4), some (vI 0), none]) (pc' := 66) dX9_findLeast_64 rfl (by decide) rfl ?_
      exact mod_findLeast_66_s ih BIG x1 x2 x3 x4 0 μ
def mod_findLeast_41   : Nat → Int → Int → Int → Mem → Option (Mem)
  | 0, _, _, _, _ => none
  | n + 1, x1, x2, x3, μ => if x3 = 0 then (some μ) else (mod_findLeast_50 (mod_findLeast_41 n) BIG x1 x2 0 0 μ)
theorem mod_findLeast_41_s {l : Launch} {G : Nv}     : ∀ (n : Nat) (x1 x2 x3 : Int) (μ : Mem), SR l G S88 mX9_findLeast (mod_findLeast_41 n x1 x2 x3 μ) jM 41 [some (vR 61), some (vI x1), some (vI x2), some (vI x3), none, none, none] [] μ := by
  intro n
  induction n with
  | zero => intro x1 x2 x3 μ; exact sr_none
  | succ n ih =>
    intro x1 x2 x3 μ
    rw [mod_findLeast_41.eq_2]
    refine sr_iload_n (i := 3) (pc' := 42) dX9_findLeast_41 rfl rfl rfl ?_
    refine sr_if_eq (pc' := 45) (tgt := 173) dX9_findLeast_42 rfl rfl (fun c42 => ?_) (fun c42 => ?_)
    · exact sr_ret dX9_findLeast_173 rfl rfl
    · refine sr_iconst (pc' := 46) dX9_findLeast_45 rfl (by decide) ?_
      refine sr_istore_n (i := 3) (lv' := [some (vR 61), some (vI x1), some (vI x2), some (vI 0), none, none, none]) (pc' := 47) dX9_findLeast_46 rfl rfl (by decide) rfl ?_
      refine sr_iconst (pc' := 48) dX9_findLeast_47 rfl (by decide) ?_
      refine sr_istore (lv' := [some (vR 61), some (vI x1), some (vI x2), some (vI 0), some (vI 0), none, none]) (pc' := 50) dX9_findLeast_48 rfl (by decide) rfl ?_
      exact mod_findLeast_50_s ih BIG x1 x2 0 0 μ
def mod_findLeast_2   : Nat → Int → Int → Int → Mem → Option (Mem)
  | 0, _, _, _, _ => none
  | n + 1, x1, x2, x3, μ => if 63 ≤ x3 then (mod_findLeast_41 BIG x1 x2 1 μ) else ((mod_of μ x1 5).bind fun u1 => if (iDiv x3 3) = u1 then (mod_findLeast_32 (mod_findLeast_2 n) x1 x2 x3 x3 0 μ) else (mod_findLeast_32 (mod_findLeast_2 n) x1 x2 x3 x3 1000000000 μ))
theorem mod_findLeast_2_s {l : Launch} {G : Nv}     : ∀ (n : Nat) (x1 x2 x3 : Int) (μ : Mem), SR l G S88 mX9_findLeast (mod_findLeast_2 n x1 x2 x3 μ) jM 2 [some (vR 61), some (vI x1), some (vI x2), some (vI x3), none, none, none] [] μ := by
  intro n
  induction n with
  | zero => intro x1 x2 x3 μ; exact sr_none
  | succ n ih =>
    intro x1 x2 x3 μ
    rw [mod_findLeast_2.eq_2]
    refine sr_iload_n (i := 3) (pc' := 3) dX9_findLeast_2 rfl rfl rfl ?_
    refine sr_bipush (pc' := 5) dX9_findLeast_3 rfl (by decide) (by decide) ?_
    refine sr_icmp_ge (pc' := 8) (tgt := 39) dX9_findLeast_5 rfl rfl (fun c5 => ?_) (fun c5 => ?_)
    · refine sr_iconst (pc' := 40) dX9_findLeast_39 rfl (by decide) ?_
      refine sr_istore_n (i := 3) (lv' := [some (vR 61), some (vI x1), some (vI x2), some (vI 1), none, none, none]) (pc' := 41) dX9_findLeast_40 rfl rfl (by decide) rfl ?_
      exact mod_findLeast_41_s BIG x1 x2 1 μ
    · refine sr_aload_n (i := 0) (pc' := 9) dX9_findLeast_8 rfl rfl rfl ?_
      refine sr_getR (k := 34) (b := 83) (pc' := 12) cls_X9 dX9_findLeast_9 rfl s88_61 rfl (by decide) w_365 ?_
      refine sr_iload_n (i := 3) (pc' := 13) dX9_findLeast_12 rfl rfl rfl ?_
      refine sr_iload_n (i := 3) (pc' := 14) dX9_findLeast_13 rfl rfl rfl ?_
      refine sr_iconst (pc' := 15) dX9_findLeast_14 rfl (by decide) ?_
      refine sr_idiv (pc' := 16) dX9_findLeast_15 rfl (by decide) ?_
      refine sr_aload_n (i := 0) (pc' := 17) dX9_findLeast_16 rfl rfl rfl ?_
      refine sr_iload_n (i := 1) (pc' := 18) dX9_findLeast_17 rfl rfl rfl ?_
      refine sr_iconst (pc' := 19) dX9_findLeast_18 rfl (by decide) ?_
      refine sr_callV2_I (pc' := 22) (mod_of_sp x1 5 μ) dX9_findLeast_19 rfl mg_X9_of mi_X9_of (Or.inl ⟨9, _, TX9, 40, s88_61, rfl⟩) ⟨Nat.le_of_ble_eq_true rfl, Nat.le_of_ble_eq_true rfl⟩ w_314 (Nat.le_of_ble_eq_true rfl) (fun u1 hu1 hcu1 hzu1 => ?_)
      refine sr_icmp_ne (pc' := 25) (tgt := 29) dX9_findLeast_22 rfl rfl (fun c22 => ?_) (fun c22 => ?_)
      · refine sr_iconst (pc' := 26) dX9_findLeast_25 rfl (by decide) ?_
        refine sr_goto (pc' := 32) dX9_findLeast_26 rfl ?_
        exact mod_findLeast_32_s ih x1 x2 x3 x3 0 μ
      · refine sr_ldcw (x := 1000000000) (pc' := 32) dX9_findLeast_29 rfl (by decide) w_366 ?_
        exact mod_findLeast_32_s ih x1 x2 x3 x3 1000000000 μ
def mod_findLeast   (x1 x2 : Int) (μ : Mem) : Option (Mem) := mod_findLeast_2 BIG x1 x2 0 μ
theorem mod_findLeast_sp {l : Launch} {G : Nv}   (x1 x2 : Int) (μ : Mem) : SP l G S88 mX9_findLeast [vR 61, vI x1, vI x2] μ (mod_findLeast x1 x2 μ) jM := by
  refine sp_go (lv := [some (vR 61), some (vI x1), some (vI x2), none, none, none, none]) pn_X9 (Nat.le_of_ble_eq_true rfl) rfl ?_
  unfold mod_findLeast
  refine sr_iconst (pc' := 1) dX9_findLeast_0 rfl (by decide) ?_
  refine sr_istore_n (i := 3) (lv' := [some (vR 61), some (vI x1), some (vI x2), some (vI 0), none, none, none]) (pc' := 2) dX9_findLeast_1 rfl rfl (by decide) rfl ?_
  exact mod_findLeast_2_s BIG x1 x2 0 μ
def mod_isShare (μ : Mem)  (x0 : Int) : Option (Int) := (mod_in μ x0 0 60).bind fun u1 => some u1
theorem mod_isShare_sp {l : Launch} {G : Nv} {Sh : Shp}   (x0 : Int) (μ : Mem) : SP l G Sh mX9_isShare [vI x0] μ (mod_isShare μ x0) (jI μ) := by
  refine sp_go (lv := [some (vI x0)]) pn_X9 (Nat.le_of_ble_eq_true rfl) rfl ?_
  unfold mod_isShare
  refine sr_iload_n (i := 0) (pc' := 1) dX9_isShare_0 rfl rfl rfl ?_
  refine sr_i2l (pc' := 2) dX9_isShare_1 rfl ?_
  refine sr_lconst (x := 0) (pc' := 3) dX9_isShare_2 rfl (by decide) rfl ?_
  refine sr_ldc2 (x := 60) (pc' := 6) dX9_isShare_3 rfl (by decide) w_351 ?_
  refine sr_callS3_I (pc' := 9) (mod_in_sp x0 0 60 μ) dX9_isShare_6 rfl mg_X9_in ms_X9_in ⟨Nat.le_of_ble_eq_true rfl, Nat.le_of_ble_eq_true rfl⟩ w_336 (Nat.le_of_ble_eq_true rfl) (fun u1 hu1 hcu1 hzu1 => ?_)
  exact sr_iretZ dX9_isShare_9 rfl (hzu1 rfl)  rfl
def mod_firm (μ : Mem)  (x1 x2 x3 : Int) : Option (Int) := (mod_isShare μ x1).bind fun u1 => if u1 = 0 then (some (-1)) else ((mod_isShare μ x2).bind fun u2 => if u2 = 0 then (some (-1)) else ((mod_isShare μ x3).bind fun u3 => if u3 = 0 then (some (-1)) else ((mod_areFirm μ x1 x2 x3).bind fun u4 => (mod_flag μ u4).bind fun u5 => some u5)))
theorem mod_firm_sp {l : Launch} {G : Nv}   (x1 x2 x3 : Int) (μ : Mem) : SP l G S88 mX9_firm [vR 61, vI x1, vI x2, vI x3] μ (mod_firm μ x1 x2 x3) (jI μ) := by
  refine sp_go (lv := [some (vR 61), some (vI x1), some (vI x2), some (vI x3)]) pn_X9 (Nat.le_of_ble_eq_true rfl) rfl ?_
  unfold mod_firm
  refine sr_iload_n (i := 1) (pc' := 1) dX9_firm_0 rfl rfl rfl ?_
  refine sr_callS1_I (pc' := 4) (mod_isShare_sp x1 μ) dX9_firm_1 rfl mg_X9_isShare ms_X9_isShare ⟨Nat.le_of_ble_eq_true rfl, Nat.le_of_ble_eq_true rfl⟩ w_368 (Nat.le_of_ble_eq_true rfl) (fun u1 hu1 hcu1 hzu1 => ?_)
  refine sr_if_eq (pc' := 7) (tgt := 34) dX9_firm_4 rfl rfl (fun c4 => ?_) (fun c4 => ?_)
  · refine sr_iconst (pc' := 35) dX9_firm_34 rfl (by decide) ?_
    exact sr_iretI dX9_firm_35 rfl rfl
  · refine sr_iload_n (i := 2) (pc' := 8) dX9_firm_7 rfl rfl rfl ?_
    refine sr_callS1_I (pc' := 11) (mod_isShare_sp x2 μ) dX9_firm_8 rfl mg_X9_isShare ms_X9_isShare ⟨Nat.le_of_ble_eq_true rfl, Nat.le_of_ble_eq_true rfl⟩ w_368 (Nat.le_of_ble_eq_true rfl) (fun u2 hu2 hcu2 hzu2 => ?_)
    refine sr_if_eq (pc' := 14) (tgt := 34) dX9_firm_11 rfl rfl (fun c11 => ?_) (fun c11 => ?_)
    · refine sr_iconst (pc' := 35) dX9_firm_34 rfl (by decide) ?_
      exact sr_iretI dX9_firm_35 rfl rfl
    · refine sr_iload_n (i := 3) (pc' := 15) dX9_firm_14 rfl rfl rfl ?_
      refine sr_callS1_I (pc' := 18) (mod_isShare_sp x3 μ) dX9_firm_15 rfl mg_X9_isShare ms_X9_isShare ⟨Nat.le_of_ble_eq_true rfl, Nat.le_of_ble_eq_true rfl⟩ w_368 (Nat.le_of_ble_eq_true rfl) (fun u3 hu3 hcu3 hzu3 => ?_)
      refine sr_if_eq (pc' := 21) (tgt := 34) dX9_firm_18 rfl rfl (fun c18 => ?_) (fun c18 => ?_)
      · refine sr_iconst (pc' := 35) dX9_firm_34 rfl (by decide) ?_
        exact sr_iretI dX9_firm_35 rfl rfl
      · refine sr_aload_n (i := 0) (pc' := 22) dX9_firm_21 rfl rfl rfl ?_
        refine sr_iload_n (i := 1) (pc' := 23) dX9_firm_22 rfl rfl rfl ?_
        refine sr_iload_n (i := 2) (pc' := 24) dX9_firm_23 rfl rfl rfl ?_
        refine sr_iload_n (i := 3) (pc' := 25) dX9_firm_24 rfl rfl rfl ?_
        refine sr_callV3_I (pc' := 28) (mod_areFirm_sp x1 x2 x3 μ) dX9_firm_25 rfl mg_X9_areFirm mi_X9_areFirm (Or.inl ⟨9, _, TX9, 40, s88_61, rfl⟩) ⟨Nat.le_of_ble_eq_true rfl, Nat.le_of_ble_eq_true rfl⟩ w_369 (Nat.le_of_ble_eq_true rfl) (fun u4 hu4 hcu4 hzu4 => ?_)
        refine sr_callS1_I (pc' := 31) (mod_flag_sp u4 μ) dX9_firm_28 rfl mg_X9_flag ms_X9_flag ⟨Nat.le_of_ble_eq_true rfl, Nat.le_of_ble_eq_true rfl⟩ w_344 (Nat.le_of_ble_eq_true rfl) (fun u5 hu5 hcu5 hzu5 => ?_)
        refine sr_goto (pc' := 35) dX9_firm_31 rfl ?_
        exact sr_iretI dX9_firm_35 rfl rfl
def mod_firstDraft_55  (k24 : Int → Mem → Option (Mem)) : Nat → Int → Int → Mem → Option (Mem)
  | 0, _, _, _ => none
  | n + 1, x1, x2, μ => if 3 ≤ x2 then (k24 (wI (x1 + 1)) μ) else ((stx μ 72 63 (wI ((wI (3 * x1)) + x2)) 0).bind fun μ1 => (stx μ1 73 63 (wI ((wI (3 * x1)) + x2)) (zN 0)).bind fun μ2 => mod_firstDraft_55 k24 n x1 (wI (x2 + 1)) μ2)
theorem mod_firstDraft_55_s {l : Launch} {G : Nv}   {k24 : Int → Mem → Option (Mem)} (hk24 : ∀ (x1 : Int) (μ : Mem) , SR l G S88 mX9_firstDraft (k24 x1 μ) jM 24 [some (vR 61), some (vI x1), none] [] μ) : ∀ (n : Nat) (x1 x2 : Int) (μ : Mem), SR l G S88 mX9_firstDraft (mod_firstDraft_55 k24 n x1 x2 μ) jM 55 [some (vR 61), some (vI x1), some (vI x2)] [] μ := by
  intro n
  induction n with
  | zero => intro x1 x2 μ; exact sr_none
  | succ n ih =>
    intro x1 x2 μ
    rw [mod_firstDraft_55.eq_2]
    refine sr_iload_n (i := 2) (pc' := 56) dX9_firstDraft_55 rfl rfl rfl ?_
    refine sr_iconst (pc' := 57) dX9_firstDraft_56 rfl (by decide) ?_
    refine sr_icmp_ge (pc' := 60) (tgt := 88) dX9_firstDraft_57 rfl rfl (fun c57 => ?_) (fun c57 => ?_)
    · refine sr_iinc (lv' := [some (vR 61), some (vI (wI (x1 + 1))), some (vI x2)]) (pc' := 91) dX9_firstDraft_88 rfl (by decide) rfl rfl ?_
      refine sr_goto (pc' := 24) dX9_firstDraft_91 rfl ?_
      refine sr_fgt (fgt_s (fgt_s (fgt_n fgt_nil))) ?_
      exact hk24 (wI (x1 + 1)) μ
    · refine sr_aload_n (i := 0) (pc' := 61) dX9_firstDraft_60 rfl rfl rfl ?_
      refine sr_getR (k := 12) (b := 72) (pc' := 64) cls_X9 dX9_firstDraft_61 rfl s88_61 rfl (by decide) w_370 ?_
      refine sr_iconst (pc' := 65) dX9_firstDraft_64 rfl (by decide) ?_
      refine sr_iload_n (i := 1) (pc' := 66) dX9_firstDraft_65 rfl rfl rfl ?_
      refine sr_imul (pc' := 67) dX9_firstDraft_66 rfl ?_
      refine sr_iload_n (i := 2) (pc' := 68) dX9_firstDraft_67 rfl rfl rfl ?_
      refine sr_iadd (pc' := 69) dX9_firstDraft_68 rfl ?_
      refine sr_iconst (pc' := 70) dX9_firstDraft_69 rfl (by decide) ?_
      refine sr_iast (pc' := 71) dX9_firstDraft_70 rfl s88_72 (by decide) (fun μ1 hμ1 hμ1a hμ1b => ?_)
      refine sr_aload_n (i := 0) (pc' := 72) dX9_firstDraft_71 rfl rfl rfl ?_
      refine sr_getR (k := 13) (b := 73) (pc' := 75) cls_X9 dX9_firstDraft_72 rfl s88_61 rfl (by decide) w_333 ?_
      refine sr_iconst (pc' := 76) dX9_firstDraft_75 rfl (by decide) ?_
      refine sr_iload_n (i := 1) (pc' := 77) dX9_firstDraft_76 rfl rfl rfl ?_
      refine sr_imul (pc' := 78) dX9_firstDraft_77 rfl ?_
      refine sr_iload_n (i := 2) (pc' := 79) dX9_firstDraft_78 rfl rfl rfl ?_
      refine sr_iadd (pc' := 80) dX9_firstDraft_79 rfl ?_
      refine sr_iconst (pc' := 81) dX9_firstDraft_80 rfl (by decide) ?_
      refine sr_zast (pc' := 82) dX9_firstDraft_81 rfl s88_73 (by decide) (fun μ2 hμ2 hμ2a hμ2b => ?_)
      refine sr_iinc (lv' := [some (vR 61), some (vI x1), some (vI (wI (x2 + 1)))]) (pc' := 85) dX9_firstDraft_82 rfl (by decide) rfl rfl ?_
      refine sr_goto (pc' := 55) dX9_firstDraft_85 rfl ?_
      exact ih x1 (wI (x2 + 1)) μ2
def mod_firstDraft_24   : Nat → Int → Mem → Option (Mem)
  | 0, _, _ => none
  | n + 1, x1, μ => if 21 ≤ x1 then (bnd (mset μ 61 8 10) fun μ1 => bnd (mset μ1 61 14 0) fun μ2 => bnd (mset μ2 61 15 0) fun μ3 => bnd (mset μ3 61 16 (-4)) fun μ4 => some μ4) else ((stx μ 69 21 x1 (zN 0)).bind fun μ5 => (stx μ5 70 21 x1 (-4)).bind fun μ6 => (stx μ6 71 21 x1 (-4)).bind fun μ7 => mod_firstDraft_55 (mod_firstDraft_24 n) BIG x1 0 μ7)
theorem mod_firstDraft_24_s {l : Launch} {G : Nv}     : ∀ (n : Nat) (x1 : Int) (μ : Mem), SR l G S88 mX9_firstDraft (mod_firstDraft_24 n x1 μ) jM 24 [some (vR 61), some (vI x1), none] [] μ := by
  intro n
  induction n with
  | zero => intro x1 μ; exact sr_none
  | succ n ih =>
    intro x1 μ
    rw [mod_firstDraft_24.eq_2]
    refine sr_iload_n (i := 1) (pc' := 25) dX9_firstDraft_24 rfl rfl rfl ?_
    refine sr_bipush (pc' := 27) dX9_firstDraft_25 rfl (by decide) (by decide) ?_
    refine sr_icmp_ge (pc' := 30) (tgt := 94) dX9_firstDraft_27 rfl rfl (fun c27 => ?_) (fun c27 => ?_)
    · refine sr_aload_n (i := 0) (pc' := 95) dX9_firstDraft_94 rfl rfl rfl ?_
      refine sr_bipush (pc' := 97) dX9_firstDraft_95 rfl (by decide) (by decide) ?_
      refine sr_putI (k := 8) (pc' := 100) cls_X9 dX9_firstDraft_97 rfl s88_61 rfl (by decide) w_371 rfl rfl (fun μ1 hμ1 => ?_)
      refine sr_aload_n (i := 0) (pc' := 101) dX9_firstDraft_100 rfl rfl rfl ?_
      refine sr_iconst (pc' := 102) dX9_firstDraft_101 rfl (by decide) ?_
      refine sr_putZ (k := 14) (pc' := 105) cls_X9 dX9_firstDraft_102 rfl s88_61 rfl (by decide) w_372 rfl rfl (Or.inl rfl) (fun μ2 hμ2 => ?_)
      refine sr_aload_n (i := 0) (pc' := 106) dX9_firstDraft_105 rfl rfl rfl ?_
      refine sr_iconst (pc' := 107) dX9_firstDraft_106 rfl (by decide) ?_
      refine sr_putI (k := 15) (pc' := 110) cls_X9 dX9_firstDraft_107 rfl s88_61 rfl (by decide) w_373 rfl rfl (fun μ3 hμ3 => ?_)
      refine sr_aload_n (i := 0) (pc' := 111) dX9_firstDraft_110 rfl rfl rfl ?_
      refine sr_bipush (pc' := 113) dX9_firstDraft_111 rfl (by decide) (by decide) ?_
      refine sr_putI (k := 16) (pc' := 116) cls_X9 dX9_firstDraft_113 rfl s88_61 rfl (by decide) w_374 rfl rfl (fun μ4 hμ4 => ?_)
      exact sr_ret dX9_firstDraft_116 rfl rfl
    · refine sr_aload_n (i := 0) (pc' := 31) dX9_firstDraft_30 rfl rfl rfl ?_
      refine sr_getR (k := 9) (b := 69) (pc' := 34) cls_X9 dX9_firstDraft_31 rfl s88_61 rfl (by decide) w_375 ?_
      refine sr_iload_n (i := 1) (pc' := 35) dX9_firstDraft_34 rfl rfl rfl ?_
      refine sr_iconst (pc' := 36) dX9_firstDraft_35 rfl (by decide) ?_
      refine sr_zast (pc' := 37) dX9_firstDraft_36 rfl s88_69 (by decide) (fun μ5 hμ5 hμ5a hμ5b => ?_)
      refine sr_aload_n (i := 0) (pc' := 38) dX9_firstDraft_37 rfl rfl rfl ?_
      refine sr_getR (k := 10) (b := 70) (pc' := 41) cls_X9 dX9_firstDraft_38 rfl s88_61 rfl (by decide) w_334 ?_
      refine sr_iload_n (i := 1) (pc' := 42) dX9_firstDraft_41 rfl rfl rfl ?_
      refine sr_bipush (pc' := 44) dX9_firstDraft_42 rfl (by decide) (by decide) ?_
      refine sr_iast (pc' := 45) dX9_firstDraft_44 rfl s88_70 (by decide) (fun μ6 hμ6 hμ6a hμ6b => ?_)
      refine sr_aload_n (i := 0) (pc' := 46) dX9_firstDraft_45 rfl rfl rfl ?_
      refine sr_getR (k := 11) (b := 71) (pc' := 49) cls_X9 dX9_firstDraft_46 rfl s88_61 rfl (by decide) w_376 ?_
      refine sr_iload_n (i := 1) (pc' := 50) dX9_firstDraft_49 rfl rfl rfl ?_
      refine sr_bipush (pc' := 52) dX9_firstDraft_50 rfl (by decide) (by decide) ?_
      refine sr_iast (pc' := 53) dX9_firstDraft_52 rfl s88_71 (by decide) (fun μ7 hμ7 hμ7a hμ7b => ?_)
      refine sr_iconst (pc' := 54) dX9_firstDraft_53 rfl (by decide) ?_
      refine sr_istore_n (i := 2) (lv' := [some (vR 61), some (vI x1), some (vI 0)]) (pc' := 55) dX9_firstDraft_54 rfl rfl (by decide) rfl ?_
      exact mod_firstDraft_55_s ih BIG x1 0 μ7
def mod_firstDraft_2   : Nat → Int → Mem → Option (Mem)
  | 0, _, _ => none
  | n + 1, x1, μ => if 185 ≤ x1 then (mod_firstDraft_24 BIG 0 μ) else ((stx μ 68 185 x1 0).bind fun μ1 => mod_firstDraft_2 n (wI (x1 + 1)) μ1)
theorem mod_firstDraft_2_s {l : Launch} {G : Nv}     : ∀ (n : Nat) (x1 : Int) (μ : Mem), SR l G S88 mX9_firstDraft (mod_firstDraft_2 n x1 μ) jM 2 [some (vR 61), some (vI x1), none] [] μ := by
  intro n
  induction n with
  | zero => intro x1 μ; exact sr_none
  | succ n ih =>
    intro x1 μ
    rw [mod_firstDraft_2.eq_2]
    refine sr_iload_n (i := 1) (pc' := 3) dX9_firstDraft_2 rfl rfl rfl ?_
    refine sr_sipush (pc' := 6) dX9_firstDraft_3 rfl (by decide) (by decide) ?_
    refine sr_icmp_ge (pc' := 9) (tgt := 22) dX9_firstDraft_6 rfl rfl (fun c6 => ?_) (fun c6 => ?_)
    · refine sr_iconst (pc' := 23) dX9_firstDraft_22 rfl (by decide) ?_
      refine sr_istore_n (i := 1) (lv' := [some (vR 61), some (vI 0), none]) (pc' := 24) dX9_firstDraft_23 rfl rfl (by decide) rfl ?_
      exact mod_firstDraft_24_s BIG 0 μ
    · refine sr_aload_n (i := 0) (pc' := 10) dX9_firstDraft_9 rfl rfl rfl ?_
      refine sr_getR (k := 7) (b := 68) (pc' := 13) cls_X9 dX9_firstDraft_10 rfl s88_61 rfl (by decide) w_377 ?_
      refine sr_iload_n (i := 1) (pc' := 14) dX9_firstDraft_13 rfl rfl rfl ?_
      refine sr_iconst (pc' := 15) dX9_firstDraft_14 rfl (by decide) ?_
      refine sr_iast (pc' := 16) dX9_firstDraft_15 rfl s88_68 (by decide) (fun μ1 hμ1 hμ1a hμ1b => ?_)
      refine sr_iinc (lv' := [some (vR 61), some (vI (wI (x1 + 1))), none]) (pc' := 19) dX9_firstDraft_16 rfl (by decide) rfl rfl ?_
      refine sr_goto (pc' := 2) dX9_firstDraft_19 rfl ?_
      exact ih (wI (x1 + 1)) μ1
def mod_firstDraft   (μ : Mem) : Option (Mem) := mod_firstDraft_2 BIG 0 μ
theorem mod_firstDraft_sp {l : Launch} {G : Nv}   (μ : Mem) : SP l G S88 mX9_firstDraft [vR 61] μ (mod_firstDraft μ) jM := by
  refine sp_go (lv := [some (vR 61), none, none]) pn_X9 (Nat.le_of_ble_eq_true rfl) rfl ?_
  unfold mod_firstDraft
  refine sr_iconst (pc' := 1) dX9_firstDraft_0 rfl (by decide) ?_
  refine sr_istore_n (i := 1) (lv' := [some (vR 61), some (vI 0), none]) (pc' := 2) dX9_firstDraft_1 rfl rfl (by decide) rfl ?_
  exact mod_firstDraft_2_s BIG 0 μ
def mod_forget   (x1 : Int) (μ : Mem) : Option (Int × Mem) := (mod_in μ x1 0 (μ 62 168)).bind fun u1 => if u1 = 0 then (some ((-1), μ)) else (bnd (μ 62 168) fun v2 => bnd (mset μ 62 168 x1) fun μ3 => some (v2, μ3))
theorem mod_forget_sp {l : Launch} {G : Nv}   (x1 : Int) (μ : Mem) : SP l G S88 mX9_forget [vR 61, vI x1] μ (mod_forget x1 μ) jIM := by
  refine sp_go (lv := [some (vR 61), some (vI x1), none]) pn_X9 (Nat.le_of_ble_eq_true rfl) rfl ?_
  unfold mod_forget
  refine sr_iload_n (i := 1) (pc' := 1) dX9_forget_0 rfl rfl rfl ?_
  refine sr_i2l (pc' := 2) dX9_forget_1 rfl ?_
  refine sr_lconst (x := 0) (pc' := 3) dX9_forget_2 rfl (by decide) rfl ?_
  refine sr_aload_n (i := 0) (pc' := 4) dX9_forget_3 rfl rfl rfl ?_
  refine sr_getR (k := 0) (b := 62) (pc' := 7) cls_X9 dX9_forget_4 rfl s88_61 rfl (by decide) w_311 ?_
  refine sr_sipush (pc' := 10) dX9_forget_7 rfl (by decide) (by decide) ?_
  refine sr_ialdc (j := 168) (pc' := 11) dX9_forget_10 rfl s88_62 (by decide) (by decide) (by decide) rfl ?_
  refine sr_i2l (pc' := 12) dX9_forget_11 rfl ?_
  refine sr_callS3_I (pc' := 15) (mod_in_sp x1 0 (μ 62 168) μ) dX9_forget_12 rfl mg_X9_in ms_X9_in ⟨Nat.le_of_ble_eq_true rfl, Nat.le_of_ble_eq_true rfl⟩ w_336 (Nat.le_of_ble_eq_true rfl) (fun u1 hu1 hcu1 hzu1 => ?_)
  refine sr_if_ne (pc' := 18) (tgt := 20) dX9_forget_15 rfl rfl (fun c15 => ?_) (fun c15 => ?_)
  · refine sr_iconst (pc' := 19) dX9_forget_18 rfl (by decide) ?_
    exact sr_iretI dX9_forget_19 rfl rfl
  · refine sr_aload_n (i := 0) (pc' := 21) dX9_forget_20 rfl rfl rfl ?_
    refine sr_getR (k := 0) (b := 62) (pc' := 24) cls_X9 dX9_forget_21 rfl s88_61 rfl (by decide) w_311 ?_
    refine sr_sipush (pc' := 27) dX9_forget_24 rfl (by decide) (by decide) ?_
    refine sr_ialdc (j := 168) (pc' := 28) dX9_forget_27 rfl s88_62 (by decide) (by decide) (by decide) rfl ?_
    refine sr_bnd (fun v2 hv2 => ?_)
    refine sr_istore_n (i := 2) (lv' := [some (vR 61), some (vI x1), some (vI v2)]) (pc' := 29) dX9_forget_28 rfl rfl (by decide) rfl ?_
    refine sr_aload_n (i := 0) (pc' := 30) dX9_forget_29 rfl rfl rfl ?_
    refine sr_getR (k := 0) (b := 62) (pc' := 33) cls_X9 dX9_forget_30 rfl s88_61 rfl (by decide) w_311 ?_
    refine sr_sipush (pc' := 36) dX9_forget_33 rfl (by decide) (by decide) ?_
    refine sr_iload_n (i := 1) (pc' := 37) dX9_forget_36 rfl rfl rfl ?_
    refine sr_iastc (j := 168) (pc' := 38) dX9_forget_37 rfl s88_62 (by decide) (by decide) (by decide) rfl (fun μ3 hμ3 => ?_)
    refine sr_iload_n (i := 2) (pc' := 39) dX9_forget_38 rfl rfl rfl ?_
    exact sr_iretI dX9_forget_39 rfl rfl
def mod_isHour (μ : Mem)  (x0 : Int) : Option (Int) := (mod_in μ x0 1 60).bind fun u1 => some u1
theorem mod_isHour_sp {l : Launch} {G : Nv} {Sh : Shp}   (x0 : Int) (μ : Mem) : SP l G Sh mX9_isHour [vI x0] μ (mod_isHour μ x0) (jI μ) := by
  refine sp_go (lv := [some (vI x0)]) pn_X9 (Nat.le_of_ble_eq_true rfl) rfl ?_
  unfold mod_isHour
  refine sr_iload_n (i := 0) (pc' := 1) dX9_isHour_0 rfl rfl rfl ?_
  refine sr_i2l (pc' := 2) dX9_isHour_1 rfl ?_
  refine sr_lconst (x := 1) (pc' := 3) dX9_isHour_2 rfl (by decide) rfl ?_
  refine sr_ldc2 (x := 60) (pc' := 6) dX9_isHour_3 rfl (by decide) w_351 ?_
  refine sr_callS3_I (pc' := 9) (mod_in_sp x0 1 60 μ) dX9_isHour_6 rfl mg_X9_in ms_X9_in ⟨Nat.le_of_ble_eq_true rfl, Nat.le_of_ble_eq_true rfl⟩ w_336 (Nat.le_of_ble_eq_true rfl) (fun u1 hu1 hcu1 hzu1 => ?_)
  exact sr_iretZ dX9_isHour_9 rfl (hzu1 rfl)  rfl
def mod_freeze   (x1 x2 : Int) (μ : Mem) : Option (Int × Mem) := (mod_isHour μ x1).bind fun u1 => if u1 = 0 then (some ((-1), μ)) else ((ld μ 62 555 (wI (99 + x1))).bind fun v2 => (mod_flag μ x2).bind fun u3 => (stx μ 62 555 (wI (99 + x1)) u3).bind fun μ4 => some (v2, μ4))
theorem mod_freeze_sp {l : Launch} {G : Nv}   (x1 x2 : Int) (μ : Mem) : SP l G S88 mX9_freeze [vR 61, vI x1, vI x2] μ (mod_freeze x1 x2 μ) jIM := by
  refine sp_go (lv := [some (vR 61), some (vI x1), some (vI x2), none]) pn_X9 (Nat.le_of_ble_eq_true rfl) rfl ?_
  unfold mod_freeze
  refine sr_iload_n (i := 1) (pc' := 1) dX9_freeze_0 rfl rfl rfl ?_
  refine sr_callS1_I (pc' := 4) (mod_isHour_sp x1 μ) dX9_freeze_1 rfl mg_X9_isHour ms_X9_isHour ⟨Nat.le_of_ble_eq_true rfl, Nat.le_of_ble_eq_true rfl⟩ w_378 (Nat.le_of_ble_eq_true rfl) (fun u1 hu1 hcu1 hzu1 => ?_)
  refine sr_if_ne (pc' := 7) (tgt := 9) dX9_freeze_4 rfl rfl (fun c4 => ?_) (fun c4 => ?_)
  · refine sr_iconst (pc' := 8) dX9_freeze_7 rfl (by decide) ?_
    exact sr_iretI dX9_freeze_8 rfl rfl
  · refine sr_aload_n (i := 0) (pc' := 10) dX9_freeze_9 rfl rfl rfl ?_
    refine sr_getR (k := 0) (b := 62) (pc' := 13) cls_X9 dX9_freeze_10 rfl s88_61 rfl (by decide) w_311 ?_
    refine sr_bipush (pc' := 15) dX9_freeze_13 rfl (by decide) (by decide) ?_
    refine sr_iload_n (i := 1) (pc' := 16) dX9_freeze_15 rfl rfl rfl ?_
    refine sr_iadd (pc' := 17) dX9_freeze_16 rfl ?_
    refine sr_iald (pc' := 18) dX9_freeze_17 rfl s88_62 (by decide) (fun v2 hv2 hv2a hv2b => ?_)
    refine sr_istore_n (i := 3) (lv' := [some (vR 61), some (vI x1), some (vI x2), some (vI v2)]) (pc' := 19) dX9_freeze_18 rfl rfl (by decide) rfl ?_
    refine sr_aload_n (i := 0) (pc' := 20) dX9_freeze_19 rfl rfl rfl ?_
    refine sr_getR (k := 0) (b := 62) (pc' := 23) cls_X9 dX9_freeze_20 rfl s88_61 rfl (by decide) w_311 ?_
    refine sr_bipush (pc' := 25) dX9_freeze_23 rfl (by decide) (by decide) ?_
    refine sr_iload_n (i := 1) (pc' := 26) dX9_freeze_25 rfl rfl rfl ?_
    refine sr_iadd (pc' := 27) dX9_freeze_26 rfl ?_
    refine sr_iload_n (i := 2) (pc' := 28) dX9_freeze_27 rfl rfl rfl ?_
    refine sr_callS1_I (pc' := 31) (mod_flag_sp x2 μ) dX9_freeze_28 rfl mg_X9_flag ms_X9_flag ⟨Nat.le_of_ble_eq_true rfl, Nat.le_of_ble_eq_true rfl⟩ w_344 (Nat.le_of_ble_eq_true rfl) (fun u3 hu3 hcu3 hzu3 => ?_)
    refine sr_iast (pc' := 32) dX9_freeze_31 rfl s88_62 (by decide) (fun μ4 hμ4 hμ4a hμ4b => ?_)
    refine sr_iload_n (i := 3) (pc' := 33) dX9_freeze_32 rfl rfl rfl ?_
    exact sr_iretI dX9_freeze_33 rfl rfl
def mod_frost (μ : Mem)  (x1 : Int) : Option (Int) := (mod_isHour μ x1).bind fun u1 => if u1 = 0 then (some (-1)) else ((ld μ 62 555 (wI (99 + x1))).bind fun v2 => some v2)
theorem mod_frost_sp {l : Launch} {G : Nv}   (x1 : Int) (μ : Mem) : SP l G S88 mX9_frost [vR 61, vI x1] μ (mod_frost μ x1) (jI μ) := by
  refine sp_go (lv := [some (vR 61), some (vI x1)]) pn_X9 (Nat.le_of_ble_eq_true rfl) rfl ?_
  unfold mod_frost
  refine sr_iload_n (i := 1) (pc' := 1) dX9_frost_0 rfl rfl rfl ?_
  refine sr_callS1_I (pc' := 4) (mod_isHour_sp x1 μ) dX9_frost_1 rfl mg_X9_isHour ms_X9_isHour ⟨Nat.le_of_ble_eq_true rfl, Nat.le_of_ble_eq_true rfl⟩ w_378 (Nat.le_of_ble_eq_true rfl) (fun u1 hu1 hcu1 hzu1 => ?_)
  refine sr_if_eq (pc' := 7) (tgt := 19) dX9_frost_4 rfl rfl (fun c4 => ?_) (fun c4 => ?_)
  · refine sr_iconst (pc' := 20) dX9_frost_19 rfl (by decide) ?_
    exact sr_iretI dX9_frost_20 rfl rfl
  · refine sr_aload_n (i := 0) (pc' := 8) dX9_frost_7 rfl rfl rfl ?_
    refine sr_getR (k := 0) (b := 62) (pc' := 11) cls_X9 dX9_frost_8 rfl s88_61 rfl (by decide) w_311 ?_
    refine sr_bipush (pc' := 13) dX9_frost_11 rfl (by decide) (by decide) ?_
    refine sr_iload_n (i := 1) (pc' := 14) dX9_frost_13 rfl rfl rfl ?_
    refine sr_iadd (pc' := 15) dX9_frost_14 rfl ?_
    refine sr_iald (pc' := 16) dX9_frost_15 rfl s88_62 (by decide) (fun v2 hv2 hv2a hv2b => ?_)
    refine sr_goto (pc' := 20) dX9_frost_16 rfl ?_
    exact sr_iretI dX9_frost_20 rfl rfl
def mod_go_50  (k128 : Int → Int → Mem → Option (Int × Mem)) : Nat → Int → Int → Int → Mem → Option (Int × Mem)
  | 0, _, _, _, _ => none
  | n + 1, x2, x3, x4, μ => if 7 ≤ x4 then ((ld μ 75 5 x3).bind fun v1 => (stx μ 62 555 (wI ((wI (1 + (wI (7 * x2)))) + 4)) v1).bind fun μ2 => (stx μ2 62 555 (wI ((wI (1 + (wI (7 * x2)))) + 6)) 0).bind fun μ3 => k128 (wI (x2 + 1)) x3 μ3) else ((ld μ 62 555 (wI ((wI (1 + (wI (7 * x3)))) + x4))).bind fun v4 => (stx μ 62 555 (wI ((wI (1 + (wI (7 * x2)))) + x4)) v4).bind fun μ5 => mod_go_50 k128 n x2 x3 (wI (x4 + 1)) μ5)
theorem mod_go_50_s {l : Launch} {G : Nv}   {k128 : Int → Int → Mem → Option (Int × Mem)} (hk128 : ∀ (x2 x3 : Int) (μ : Mem) , SR l G S88 mX9_go (k128 x2 x3 μ) jIM 128 [some (vR 61), none, some (vI x2), some (vI x3), none] [] μ) : ∀ (n : Nat) (x2 x3 x4 : Int) (μ : Mem), SR l G S88 mX9_go (mod_go_50 k128 n x2 x3 x4 μ) jIM 50 [some (vR 61), none, some (vI x2), some (vI x3), some (vI x4)] [] μ := by
  intro n
  induction n with
  | zero => intro x2 x3 x4 μ; exact sr_none
  | succ n ih =>
    intro x2 x3 x4 μ
    rw [mod_go_50.eq_2]
    refine sr_iload (pc' := 52) dX9_go_50 rfl rfl ?_
    refine sr_bipush (pc' := 54) dX9_go_52 rfl (by decide) (by decide) ?_
    refine sr_icmp_ge (pc' := 57) (tgt := 91) dX9_go_54 rfl rfl (fun c54 => ?_) (fun c54 => ?_)
    · refine sr_aload_n (i := 0) (pc' := 92) dX9_go_91 rfl rfl rfl ?_
      refine sr_getR (k := 0) (b := 62) (pc' := 95) cls_X9 dX9_go_92 rfl s88_61 rfl (by decide) w_311 ?_
      refine sr_iconst (pc' := 96) dX9_go_95 rfl (by decide) ?_
      refine sr_bipush (pc' := 98) dX9_go_96 rfl (by decide) (by decide) ?_
      refine sr_iload_n (i := 2) (pc' := 99) dX9_go_98 rfl rfl rfl ?_
      refine sr_imul (pc' := 100) dX9_go_99 rfl ?_
      refine sr_iadd (pc' := 101) dX9_go_100 rfl ?_
      refine sr_iconst (pc' := 102) dX9_go_101 rfl (by decide) ?_
      refine sr_iadd (pc' := 103) dX9_go_102 rfl ?_
      refine sr_aload_n (i := 0) (pc' := 104) dX9_go_103 rfl rfl rfl ?_
      refine sr_getR (k := 25) (b := 75) (pc' := 107) cls_X9 dX9_go_104 rfl s88_61 rfl (by decide) w_313 ?_
      refine sr_iload_n (i := 3) (pc' := 108) dX9_go_107 rfl rfl rfl ?_
      refine sr_iald (pc' := 109) dX9_go_108 rfl s88_75 (by decide) (fun v1 hv1 hv1a hv1b => ?_)
      refine sr_iast (pc' := 110) dX9_go_109 rfl s88_62 (by decide) (fun μ2 hμ2 hμ2a hμ2b => ?_)
      refine sr_aload_n (i := 0) (pc' := 111) dX9_go_110 rfl rfl rfl ?_
      refine sr_getR (k := 0) (b := 62) (pc' := 114) cls_X9 dX9_go_111 rfl s88_61 rfl (by decide) w_311 ?_
      refine sr_iconst (pc' := 115) dX9_go_114 rfl (by decide) ?_
      refine sr_bipush (pc' := 117) dX9_go_115 rfl (by decide) (by decide) ?_
      refine sr_iload_n (i := 2) (pc' := 118) dX9_go_117 rfl rfl rfl ?_
      refine sr_imul (pc' := 119) dX9_go_118 rfl ?_
      refine sr_iadd (pc' := 120) dX9_go_119 rfl ?_
      refine sr_bipush (pc' := 122) dX9_go_120 rfl (by decide) (by decide) ?_
      refine sr_iadd (pc' := 123) dX9_go_122 rfl ?_
      refine sr_iconst (pc' := 124) dX9_go_123 rfl (by decide) ?_
      refine sr_iast (pc' := 125) dX9_go_124 rfl s88_62 (by decide) (fun μ3 hμ3 hμ3a hμ3b => ?_)
      refine sr_iinc (lv' := [some (vR 61), none, some (vI (wI (x2 + 1))), some (vI x3), some (vI x4)]) (pc' := 128) dX9_go_125 rfl (by decide) rfl rfl ?_
      refine sr_fgt (fgt_s (fgt_s (fgt_s (fgt_s (fgt_n fgt_nil))))) ?_
      exact hk128 (wI (x2 + 1)) x3 μ3
    · refine sr_aload_n (i := 0) (pc' := 58) dX9_go_57 rfl rfl rfl ?_
      refine sr_getR (k := 0) (b := 62) (pc' := 61) cls_X9 dX9_go_58 rfl s88_61 rfl (by decide) w_311 ?_
      refine sr_iconst (pc' := 62) dX9_go_61 rfl (by decide) ?_
      refine sr_bipush (pc' := 64) dX9_go_62 rfl (by decide) (by decide) ?_
      refine sr_iload_n (i := 2) (pc' := 65) dX9_go_64 rfl rfl rfl ?_
      refine sr_imul (pc' := 66) dX9_go_65 rfl ?_
      refine sr_iadd (pc' := 67) dX9_go_66 rfl ?_
      refine sr_iload (pc' := 69) dX9_go_67 rfl rfl ?_
      refine sr_iadd (pc' := 70) dX9_go_69 rfl ?_
      refine sr_aload_n (i := 0) (pc' := 71) dX9_go_70 rfl rfl rfl ?_
      refine sr_getR (k := 0) (b := 62) (pc' := 74) cls_X9 dX9_go_71 rfl s88_61 rfl (by decide) w_311 ?_
      refine sr_iconst (pc' := 75) dX9_go_74 rfl (by decide) ?_
      refine sr_bipush (pc' := 77) dX9_go_75 rfl (by decide) (by decide) ?_
      refine sr_iload_n (i := 3) (pc' := 78) dX9_go_77 rfl rfl rfl ?_
      refine sr_imul (pc' := 79) dX9_go_78 rfl ?_
      refine sr_iadd (pc' := 80) dX9_go_79 rfl ?_
      refine sr_iload (pc' := 82) dX9_go_80 rfl rfl ?_
      refine sr_iadd (pc' := 83) dX9_go_82 rfl ?_
      refine sr_iald (pc' := 84) dX9_go_83 rfl s88_62 (by decide) (fun v4 hv4 hv4a hv4b => ?_)
      refine sr_iast (pc' := 85) dX9_go_84 rfl s88_62 (by decide) (fun μ5 hμ5 hμ5a hμ5b => ?_)
      refine sr_iinc (lv' := [some (vR 61), none, some (vI x2), some (vI x3), some (vI (wI (x4 + 1)))]) (pc' := 88) dX9_go_85 rfl (by decide) rfl rfl ?_
      refine sr_goto (pc' := 50) dX9_go_88 rfl ?_
      exact ih x2 x3 (wI (x4 + 1)) μ5
def mod_go_128  (k22 : Int → Int → Mem → Option (Int × Mem)) (x2 x3 : Int) (μ : Mem) : Option (Int × Mem) := k22 x2 (wI (x3 + 1)) μ
theorem mod_go_128_s {l : Launch} {G : Nv}   {k22 : Int → Int → Mem → Option (Int × Mem)} (hk22 : ∀ (x2 x3 : Int) (μ : Mem) , SR l G S88 mX9_go (k22 x2 x3 μ) jIM 22 [some (vR 61), none, some (vI x2), some (vI x3), none] [] μ) : ∀ (x2 x3 : Int) (μ : Mem), SR l G S88 mX9_go (mod_go_128 k22 x2 x3 μ) jIM 128 [some (vR 61), none, some (vI x2), some (vI x3), none] [] μ := by
  intro x2 x3 μ
  unfold mod_go_128
  refine sr_iinc (lv' := [some (vR 61), none, some (vI x2), some (vI (wI (x3 + 1))), none]) (pc' := 131) dX9_go_128 rfl (by decide) rfl rfl ?_
  refine sr_goto (pc' := 22) dX9_go_131 rfl ?_
  exact hk22 x2 (wI (x3 + 1)) μ
def mod_go_143   : Nat → Int → Int → Mem → Option (Int × Mem)
  | 0, _, _, _ => none
  | n + 1, x2, x3, μ => if 63 ≤ x3 then (some (x2, μ)) else ((ld μ 79 63 x3).bind fun v1 => (stx μ 62 555 (wI (36 + x3)) v1).bind fun μ2 => mod_go_143 n x2 (wI (x3 + 1)) μ2)
theorem mod_go_143_s {l : Launch} {G : Nv}     : ∀ (n : Nat) (x2 x3 : Int) (μ : Mem), SR l G S88 mX9_go (mod_go_143 n x2 x3 μ) jIM 143 [some (vR 61), none, some (vI x2), some (vI x3), none] [] μ := by
  intro n
  induction n with
  | zero => intro x2 x3 μ; exact sr_none
  | succ n ih =>
    intro x2 x3 μ
    rw [mod_go_143.eq_2]
    refine sr_iload_n (i := 3) (pc' := 144) dX9_go_143 rfl rfl rfl ?_
    refine sr_bipush (pc' := 146) dX9_go_144 rfl (by decide) (by decide) ?_
    refine sr_icmp_ge (pc' := 149) (tgt := 170) dX9_go_146 rfl rfl (fun c146 => ?_) (fun c146 => ?_)
    · refine sr_iload_n (i := 2) (pc' := 171) dX9_go_170 rfl rfl rfl ?_
      exact sr_iretI dX9_go_171 rfl rfl
    · refine sr_aload_n (i := 0) (pc' := 150) dX9_go_149 rfl rfl rfl ?_
      refine sr_getR (k := 0) (b := 62) (pc' := 153) cls_X9 dX9_go_150 rfl s88_61 rfl (by decide) w_311 ?_
      refine sr_bipush (pc' := 155) dX9_go_153 rfl (by decide) (by decide) ?_
      refine sr_iload_n (i := 3) (pc' := 156) dX9_go_155 rfl rfl rfl ?_
      refine sr_iadd (pc' := 157) dX9_go_156 rfl ?_
      refine sr_aload_n (i := 0) (pc' := 158) dX9_go_157 rfl rfl rfl ?_
      refine sr_getR (k := 29) (b := 79) (pc' := 161) cls_X9 dX9_go_158 rfl s88_61 rfl (by decide) w_312 ?_
      refine sr_iload_n (i := 3) (pc' := 162) dX9_go_161 rfl rfl rfl ?_
      refine sr_iald (pc' := 163) dX9_go_162 rfl s88_79 (by decide) (fun v1 hv1 hv1a hv1b => ?_)
      refine sr_iast (pc' := 164) dX9_go_163 rfl s88_62 (by decide) (fun μ2 hμ2 hμ2a hμ2b => ?_)
      refine sr_iinc (lv' := [some (vR 61), none, some (vI x2), some (vI (wI (x3 + 1))), none]) (pc' := 167) dX9_go_164 rfl (by decide) rfl rfl ?_
      refine sr_goto (pc' := 143) dX9_go_167 rfl ?_
      exact ih x2 (wI (x3 + 1)) μ2
def mod_go_22   : Nat → Int → Int → Mem → Option (Int × Mem)
  | 0, _, _, _ => none
  | n + 1, x2, x3, μ => if (μ 62 0) ≤ x3 then (bnd (mset μ 62 0 x2) fun μ1 => mod_go_143 BIG x2 0 μ1) else ((ld μ 75 5 x3).bind fun v2 => (mod_of μ x3 5).bind fun u3 => if v2 = u3 then (mod_go_128 (mod_go_22 n) x2 x3 μ) else (mod_go_50 (mod_go_128 (mod_go_22 n)) BIG x2 x3 0 μ))
theorem mod_go_22_s {l : Launch} {G : Nv}     : ∀ (n : Nat) (x2 x3 : Int) (μ : Mem), SR l G S88 mX9_go (mod_go_22 n x2 x3 μ) jIM 22 [some (vR 61), none, some (vI x2), some (vI x3), none] [] μ := by
  intro n
  induction n with
  | zero => intro x2 x3 μ; exact sr_none
  | succ n ih =>
    intro x2 x3 μ
    rw [mod_go_22.eq_2]
    refine sr_iload_n (i := 3) (pc' := 23) dX9_go_22 rfl rfl rfl ?_
    refine sr_aload_n (i := 0) (pc' := 24) dX9_go_23 rfl rfl rfl ?_
    refine sr_getR (k := 0) (b := 62) (pc' := 27) cls_X9 dX9_go_24 rfl s88_61 rfl (by decide) w_311 ?_
    refine sr_iconst (pc' := 28) dX9_go_27 rfl (by decide) ?_
    refine sr_ialdc (j := 0) (pc' := 29) dX9_go_28 rfl s88_62 (by decide) (by decide) (by decide) rfl ?_
    refine sr_icmp_ge (pc' := 32) (tgt := 134) dX9_go_29 rfl rfl (fun c29 => ?_) (fun c29 => ?_)
    · refine sr_aload_n (i := 0) (pc' := 135) dX9_go_134 rfl rfl rfl ?_
      refine sr_getR (k := 0) (b := 62) (pc' := 138) cls_X9 dX9_go_135 rfl s88_61 rfl (by decide) w_311 ?_
      refine sr_iconst (pc' := 139) dX9_go_138 rfl (by decide) ?_
      refine sr_iload_n (i := 2) (pc' := 140) dX9_go_139 rfl rfl rfl ?_
      refine sr_iastc (j := 0) (pc' := 141) dX9_go_140 rfl s88_62 (by decide) (by decide) (by decide) rfl (fun μ1 hμ1 => ?_)
      refine sr_iconst (pc' := 142) dX9_go_141 rfl (by decide) ?_
      refine sr_istore_n (i := 3) (lv' := [some (vR 61), none, some (vI x2), some (vI 0), none]) (pc' := 143) dX9_go_142 rfl rfl (by decide) rfl ?_
      exact mod_go_143_s BIG x2 0 μ1
    · refine sr_aload_n (i := 0) (pc' := 33) dX9_go_32 rfl rfl rfl ?_
      refine sr_getR (k := 25) (b := 75) (pc' := 36) cls_X9 dX9_go_33 rfl s88_61 rfl (by decide) w_313 ?_
      refine sr_iload_n (i := 3) (pc' := 37) dX9_go_36 rfl rfl rfl ?_
      refine sr_iald (pc' := 38) dX9_go_37 rfl s88_75 (by decide) (fun v2 hv2 hv2a hv2b => ?_)
      refine sr_aload_n (i := 0) (pc' := 39) dX9_go_38 rfl rfl rfl ?_
      refine sr_iload_n (i := 3) (pc' := 40) dX9_go_39 rfl rfl rfl ?_
      refine sr_iconst (pc' := 41) dX9_go_40 rfl (by decide) ?_
      refine sr_callV2_I (pc' := 44) (mod_of_sp x3 5 μ) dX9_go_41 rfl mg_X9_of mi_X9_of (Or.inl ⟨9, _, TX9, 40, s88_61, rfl⟩) ⟨Nat.le_of_ble_eq_true rfl, Nat.le_of_ble_eq_true rfl⟩ w_314 (Nat.le_of_ble_eq_true rfl) (fun u3 hu3 hcu3 hzu3 => ?_)
      refine sr_icmp_eq (pc' := 47) (tgt := 128) dX9_go_44 rfl rfl (fun c44 => ?_) (fun c44 => ?_)
      · exact mod_go_128_s ih x2 x3 μ
      · refine sr_iconst (pc' := 48) dX9_go_47 rfl (by decide) ?_
        refine sr_istore (lv' := [some (vR 61), none, some (vI x2), some (vI x3), some (vI 0)]) (pc' := 50) dX9_go_48 rfl (by decide) rfl ?_
        exact mod_go_50_s (mod_go_128_s ih) BIG x2 x3 0 μ
def mod_go   (x1 : Int) (μ : Mem) : Option (Int × Mem) := (mod_isTime μ x1).bind fun u1 => if u1 = 0 then (some ((-1), μ)) else ((mod_byNumbers μ).bind fun μ2 => (mod_runs x1 μ2).bind fun μ3 => mod_go_22 BIG 0 0 μ3)
theorem mod_go_sp {l : Launch} {G : Nv}   (x1 : Int) (μ : Mem) : SP l G S88 mX9_go [vR 61, vI x1] μ (mod_go x1 μ) jIM := by
  refine sp_go (lv := [some (vR 61), some (vI x1), none, none, none]) pn_X9 (Nat.le_of_ble_eq_true rfl) rfl ?_
  unfold mod_go
  refine sr_iload_n (i := 1) (pc' := 1) dX9_go_0 rfl rfl rfl ?_
  refine sr_callS1_I (pc' := 4) (mod_isTime_sp x1 μ) dX9_go_1 rfl mg_X9_isTime ms_X9_isTime ⟨Nat.le_of_ble_eq_true rfl, Nat.le_of_ble_eq_true rfl⟩ w_352 (Nat.le_of_ble_eq_true rfl) (fun u1 hu1 hcu1 hzu1 => ?_)
  refine sr_if_ne (pc' := 7) (tgt := 9) dX9_go_4 rfl rfl (fun c4 => ?_) (fun c4 => ?_)
  · refine sr_iconst (pc' := 8) dX9_go_7 rfl (by decide) ?_
    exact sr_iretI dX9_go_8 rfl rfl
  · refine sr_aload_n (i := 0) (pc' := 10) dX9_go_9 rfl rfl rfl ?_
    refine sr_callV0_M (pc' := 13) (mod_byNumbers_sp μ) dX9_go_10 rfl mg_X9_byNumbers mi_X9_byNumbers (Or.inl ⟨9, _, TX9, 40, s88_61, rfl⟩) ⟨Nat.le_of_ble_eq_true rfl, Nat.le_of_ble_eq_true rfl⟩ w_353 (Nat.le_of_ble_eq_true rfl) (fun μ2 hμ2 => ?_)
    refine sr_aload_n (i := 0) (pc' := 14) dX9_go_13 rfl rfl rfl ?_
    refine sr_iload_n (i := 1) (pc' := 15) dX9_go_14 rfl rfl rfl ?_
    refine sr_callV1_M (pc' := 18) (mod_runs_sp x1 μ2) dX9_go_15 rfl mg_X9_runs mi_X9_runs (Or.inl ⟨9, _, TX9, 40, s88_61, rfl⟩) ⟨Nat.le_of_ble_eq_true rfl, Nat.le_of_ble_eq_true rfl⟩ w_328 (Nat.le_of_ble_eq_true rfl) (fun μ3 hμ3 => ?_)
    refine sr_iconst (pc' := 19) dX9_go_18 rfl (by decide) ?_
    refine sr_istore_n (i := 2) (lv' := [some (vR 61), some (vI x1), some (vI 0), none, none]) (pc' := 20) dX9_go_19 rfl rfl (by decide) rfl ?_
    refine sr_iconst (pc' := 21) dX9_go_20 rfl (by decide) ?_
    refine sr_istore_n (i := 3) (lv' := [some (vR 61), some (vI x1), some (vI 0), some (vI 0), none]) (pc' := 22) dX9_go_21 rfl rfl (by decide) rfl ?_
    refine sr_fgt (fgt_s (fgt_n (fgt_s (fgt_s (fgt_s fgt_nil))))) ?_
    exact mod_go_22_s BIG 0 0 μ3
