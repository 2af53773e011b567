def mod_goesHour_76  (k36 : Int → Int → Mem → Option (Mem)) (x1 x2 s1 s2 s3 : Int) (μ : Mem) : Option (Mem) := (stx μ 79 63 s1 (wI (s2 - s3))).bind fun μ1 => k36 x1 (wI (x2 + 1)) μ1
theorem mod_goesHour_76_s {l : Launch} {G : Nv}   {k36 : Int → Int → Mem → Option (Mem)} (hk36 : ∀ (x1 x2 : Int) (μ : Mem) , SR l G S88 mX9_goesHour (k36 x1 x2 μ) jM 36 [some (vR 61), some (vI x1), some (vI x2)] [] μ) : ∀ (x1 x2 s1 s2 s3 : Int) (μ : Mem), SR l G S88 mX9_goesHour (mod_goesHour_76 k36 x1 x2 s1 s2 s3 μ) jM 76 [some (vR 61), some (vI x1), some (vI x2)] [vI s3, vI s2, vI s1, vR 79] μ := by
  intro x1 x2 s1 s2 s3 μ
  unfold mod_goesHour_76
  refine sr_isub (pc' := 77) dX9_goesHour_76 rfl ?_
  refine sr_iast (pc' := 78) dX9_goesHour_77 rfl s88_79 (by decide) (fun μ1 hμ1 hμ1a hμ1b => ?_)
  refine sr_iinc (lv' := [some (vR 61), some (vI x1), some (vI (wI (x2 + 1)))]) (pc' := 81) dX9_goesHour_78 rfl (by decide) rfl rfl ?_
  refine sr_goto (pc' := 36) dX9_goesHour_81 rfl ?_
  exact hk36 x1 (wI (x2 + 1)) μ1
def mod_goesHour_36   : Nat → Int → Int → Mem → Option (Mem)
  | 0, _, _, _ => none
  | n + 1, x1, x2, μ => if 63 ≤ x2 then (some μ) else ((ld μ 62 555 (wI (99 + x1))).bind fun v1 => if v1 = 1 then ((ld μ 79 63 x2).bind fun v2 => (ld μ 79 63 x2).bind fun v3 => if v3 ≤ 0 then (mod_goesHour_76 (mod_goesHour_36 n) x1 x2 x2 v2 0 μ) else (mod_goesHour_76 (mod_goesHour_36 n) x1 x2 x2 v2 1 μ)) else (some μ))
theorem mod_goesHour_36_s {l : Launch} {G : Nv}     : ∀ (n : Nat) (x1 x2 : Int) (μ : Mem), SR l G S88 mX9_goesHour (mod_goesHour_36 n x1 x2 μ) jM 36 [some (vR 61), some (vI x1), some (vI x2)] [] μ := by
  intro n
  induction n with
  | zero => intro x1 x2 μ; exact sr_none
  | succ n ih =>
    intro x1 x2 μ
    rw [mod_goesHour_36.eq_2]
    refine sr_iload_n (i := 2) (pc' := 37) dX9_goesHour_36 rfl rfl rfl ?_
    refine sr_bipush (pc' := 39) dX9_goesHour_37 rfl (by decide) (by decide) ?_
    refine sr_icmp_ge (pc' := 42) (tgt := 84) dX9_goesHour_39 rfl rfl (fun c39 => ?_) (fun c39 => ?_)
    · exact sr_ret dX9_goesHour_84 rfl rfl
    · refine sr_aload_n (i := 0) (pc' := 43) dX9_goesHour_42 rfl rfl rfl ?_
      refine sr_getR (k := 0) (b := 62) (pc' := 46) cls_X9 dX9_goesHour_43 rfl s88_61 rfl (by decide) w_311 ?_
      refine sr_bipush (pc' := 48) dX9_goesHour_46 rfl (by decide) (by decide) ?_
      refine sr_iload_n (i := 1) (pc' := 49) dX9_goesHour_48 rfl rfl rfl ?_
      refine sr_iadd (pc' := 50) dX9_goesHour_49 rfl ?_
      refine sr_iald (pc' := 51) dX9_goesHour_50 rfl s88_62 (by decide) (fun v1 hv1 hv1a hv1b => ?_)
      refine sr_iconst (pc' := 52) dX9_goesHour_51 rfl (by decide) ?_
      refine sr_icmp_ne (pc' := 55) (tgt := 84) dX9_goesHour_52 rfl rfl (fun c52 => ?_) (fun c52 => ?_)
      · refine sr_aload_n (i := 0) (pc' := 56) dX9_goesHour_55 rfl rfl rfl ?_
        refine sr_getR (k := 29) (b := 79) (pc' := 59) cls_X9 dX9_goesHour_56 rfl s88_61 rfl (by decide) w_312 ?_
        refine sr_iload_n (i := 2) (pc' := 60) dX9_goesHour_59 rfl rfl rfl ?_
        refine sr_dup2 (pc' := 61) dX9_goesHour_60 rfl rfl rfl ?_
        refine sr_iald (pc' := 62) dX9_goesHour_61 rfl s88_79 (by decide) (fun v2 hv2 hv2a hv2b => ?_)
        refine sr_aload_n (i := 0) (pc' := 63) dX9_goesHour_62 rfl rfl rfl ?_
        refine sr_getR (k := 29) (b := 79) (pc' := 66) cls_X9 dX9_goesHour_63 rfl s88_61 rfl (by decide) w_312 ?_
        refine sr_iload_n (i := 2) (pc' := 67) dX9_goesHour_66 rfl rfl rfl ?_
        refine sr_iald (pc' := 68) dX9_goesHour_67 rfl s88_79 (by decide) (fun v3 hv3 hv3a hv3b => ?_)
        refine sr_if_le (pc' := 71) (tgt := 75) dX9_goesHour_68 rfl rfl (fun c68 => ?_) (fun c68 => ?_)
        · refine sr_iconst (pc' := 76) dX9_goesHour_75 rfl (by decide) ?_
          exact mod_goesHour_76_s ih x1 x2 x2 v2 0 μ
        · refine sr_iconst (pc' := 72) dX9_goesHour_71 rfl (by decide) ?_
          refine sr_goto (pc' := 76) dX9_goesHour_72 rfl ?_
          exact mod_goesHour_76_s ih x1 x2 x2 v2 1 μ
      · exact sr_ret dX9_goesHour_84 rfl rfl
def mod_goesHour_7   : Nat → Int → Int → Mem → Option (Mem)
  | 0, _, _, _ => none
  | n + 1, x1, x2, μ => if (μ 62 0) ≤ x2 then (mod_goesHour_36 BIG x1 0 μ) else ((ld μ 80 5 x2).bind fun v1 => (mod_goesCart v1 x1 μ).bind fun μ2 => mod_goesHour_7 n x1 (wI (x2 + 1)) μ2)
theorem mod_goesHour_7_s {l : Launch} {G : Nv}     : ∀ (n : Nat) (x1 x2 : Int) (μ : Mem), SR l G S88 mX9_goesHour (mod_goesHour_7 n x1 x2 μ) jM 7 [some (vR 61), some (vI x1), some (vI x2)] [] μ := by
  intro n
  induction n with
  | zero => intro x1 x2 μ; exact sr_none
  | succ n ih =>
    intro x1 x2 μ
    rw [mod_goesHour_7.eq_2]
    refine sr_iload_n (i := 2) (pc' := 8) dX9_goesHour_7 rfl rfl rfl ?_
    refine sr_aload_n (i := 0) (pc' := 9) dX9_goesHour_8 rfl rfl rfl ?_
    refine sr_getR (k := 0) (b := 62) (pc' := 12) cls_X9 dX9_goesHour_9 rfl s88_61 rfl (by decide) w_311 ?_
    refine sr_iconst (pc' := 13) dX9_goesHour_12 rfl (by decide) ?_
    refine sr_ialdc (j := 0) (pc' := 14) dX9_goesHour_13 rfl s88_62 (by decide) (by decide) (by decide) rfl ?_
    refine sr_icmp_ge (pc' := 17) (tgt := 34) dX9_goesHour_14 rfl rfl (fun c14 => ?_) (fun c14 => ?_)
    · refine sr_iconst (pc' := 35) dX9_goesHour_34 rfl (by decide) ?_
      refine sr_istore_n (i := 2) (lv' := [some (vR 61), some (vI x1), some (vI 0)]) (pc' := 36) dX9_goesHour_35 rfl rfl (by decide) rfl ?_
      exact mod_goesHour_36_s BIG x1 0 μ
    · refine sr_aload_n (i := 0) (pc' := 18) dX9_goesHour_17 rfl rfl rfl ?_
      refine sr_aload_n (i := 0) (pc' := 19) dX9_goesHour_18 rfl rfl rfl ?_
      refine sr_getR (k := 30) (b := 80) (pc' := 22) cls_X9 dX9_goesHour_19 rfl s88_61 rfl (by decide) w_324 ?_
      refine sr_iload_n (i := 2) (pc' := 23) dX9_goesHour_22 rfl rfl rfl ?_
      refine sr_iald (pc' := 24) dX9_goesHour_23 rfl s88_80 (by decide) (fun v1 hv1 hv1a hv1b => ?_)
      refine sr_iload_n (i := 1) (pc' := 25) dX9_goesHour_24 rfl rfl rfl ?_
      refine sr_callV2_M (pc' := 28) (mod_goesCart_sp v1 x1 μ) dX9_goesHour_25 rfl mg_X9_goesCart mi_X9_goesCart (Or.inl ⟨9, _, TX9, 40, s88_61, rfl⟩) ⟨Nat.le_of_ble_eq_true rfl, Nat.le_of_ble_eq_true rfl⟩ w_325 (Nat.le_of_ble_eq_true rfl) (fun μ2 hμ2 => ?_)
      refine sr_iinc (lv' := [some (vR 61), some (vI x1), some (vI (wI (x2 + 1)))]) (pc' := 31) dX9_goesHour_28 rfl (by decide) rfl rfl ?_
      refine sr_goto (pc' := 7) dX9_goesHour_31 rfl ?_
      exact ih x1 (wI (x2 + 1)) μ2
def mod_goesHour   (x1 : Int) (μ : Mem) : Option (Mem) := bnd (mset μ 61 31 0) fun μ1 => mod_goesHour_7 BIG x1 0 μ1
theorem mod_goesHour_sp {l : Launch} {G : Nv}   (x1 : Int) (μ : Mem) : SP l G S88 mX9_goesHour [vR 61, vI x1] μ (mod_goesHour x1 μ) jM := by
  refine sp_go (lv := [some (vR 61), some (vI x1), none]) pn_X9 (Nat.le_of_ble_eq_true rfl) rfl ?_
  unfold mod_goesHour
  refine sr_aload_n (i := 0) (pc' := 1) dX9_goesHour_0 rfl rfl rfl ?_
  refine sr_iconst (pc' := 2) dX9_goesHour_1 rfl (by decide) ?_
  refine sr_putI (k := 31) (pc' := 5) cls_X9 dX9_goesHour_2 rfl s88_61 rfl (by decide) w_320 rfl rfl (fun μ1 hμ1 => ?_)
  refine sr_iconst (pc' := 6) dX9_goesHour_5 rfl (by decide) ?_
  refine sr_istore_n (i := 2) (lv' := [some (vR 61), some (vI x1), some (vI 0)]) (pc' := 7) dX9_goesHour_6 rfl rfl (by decide) rfl ?_
  exact mod_goesHour_7_s BIG x1 0 μ1
def mod_runs_6   : Nat → Int → Int → Mem → Option (Mem)
  | 0, _, _, _ => none
  | n + 1, x1, x2, μ => if x1 < x2 then (some μ) else ((mod_goesHour x2 μ).bind fun μ1 => mod_runs_6 n x1 (wI (x2 + 1)) μ1)
theorem mod_runs_6_s {l : Launch} {G : Nv}     : ∀ (n : Nat) (x1 x2 : Int) (μ : Mem), SR l G S88 mX9_runs (mod_runs_6 n x1 x2 μ) jM 6 [some (vR 61), some (vI x1), some (vI x2)] [] μ := by
  intro n
  induction n with
  | zero => intro x1 x2 μ; exact sr_none
  | succ n ih =>
    intro x1 x2 μ
    rw [mod_runs_6.eq_2]
    refine sr_iload_n (i := 2) (pc' := 7) dX9_runs_6 rfl rfl rfl ?_
    refine sr_iload_n (i := 1) (pc' := 8) dX9_runs_7 rfl rfl rfl ?_
    refine sr_icmp_gt (pc' := 11) (tgt := 22) dX9_runs_8 rfl rfl (fun c8 => ?_) (fun c8 => ?_)
    · exact sr_ret dX9_runs_22 rfl rfl
    · refine sr_aload_n (i := 0) (pc' := 12) dX9_runs_11 rfl rfl rfl ?_
      refine sr_iload_n (i := 2) (pc' := 13) dX9_runs_12 rfl rfl rfl ?_
      refine sr_callV1_M (pc' := 16) (mod_goesHour_sp x2 μ) dX9_runs_13 rfl mg_X9_goesHour mi_X9_goesHour (Or.inl ⟨9, _, TX9, 40, s88_61, rfl⟩) ⟨Nat.le_of_ble_eq_true rfl, Nat.le_of_ble_eq_true rfl⟩ w_326 (Nat.le_of_ble_eq_true rfl) (fun μ1 hμ1 => ?_)
      refine sr_iinc (lv' := [some (vR 61), some (vI x1), some (vI (wI (x2 + 1)))]) (pc' := 19) dX9_runs_16 rfl (by decide) rfl rfl ?_
      refine sr_goto (pc' := 6) dX9_runs_19 rfl ?_
      exact ih x1 (wI (x2 + 1)) μ1
def mod_runs   (x1 : Int) (μ : Mem) : Option (Mem) := (mod_startRun μ).bind fun μ1 => mod_runs_6 BIG x1 1 μ1
theorem mod_runs_sp {l : Launch} {G : Nv}   (x1 : Int) (μ : Mem) : SP l G S88 mX9_runs [vR 61, vI x1] μ (mod_runs x1 μ) jM := by
  refine sp_go (lv := [some (vR 61), some (vI x1), none]) pn_X9 (Nat.le_of_ble_eq_true rfl) rfl ?_
  unfold mod_runs
  refine sr_aload_n (i := 0) (pc' := 1) dX9_runs_0 rfl rfl rfl ?_
  refine sr_callV0_M (pc' := 4) (mod_startRun_sp μ) dX9_runs_1 rfl mg_X9_startRun mi_X9_startRun (Or.inl ⟨9, _, TX9, 40, s88_61, rfl⟩) ⟨Nat.le_of_ble_eq_true rfl, Nat.le_of_ble_eq_true rfl⟩ w_327 (Nat.le_of_ble_eq_true rfl) (fun μ1 hμ1 => ?_)
  refine sr_iconst (pc' := 5) dX9_runs_4 rfl (by decide) ?_
  refine sr_istore_n (i := 2) (lv' := [some (vR 61), some (vI x1), some (vI 1)]) (pc' := 6) dX9_runs_5 rfl rfl (by decide) rfl ?_
  exact mod_runs_6_s BIG x1 1 μ1
def mod_sumDone_36 (μ : Mem) (k6 : Int → Int → Int → Option (Int)) (x1 x3 s0 : Int) : Option (Int) := (ld μ 78 5 x3).bind fun v1 => bnd (wI (x1 + v1)) fun v2 => k6 v2 s0 (wI (x3 + 1))
theorem mod_sumDone_36_s {l : Launch} {G : Nv}   (μ : Mem) {k6 : Int → Int → Int → Option (Int)} (hk6 : ∀ (x1 x2 x3 : Int) , SR l G S88 mX9_sumDone (k6 x1 x2 x3) (jI μ) 6 [some (vR 61), some (vI x1), some (vI x2), some (vI x3)] [] μ) : ∀ (x1 x3 s0 : Int), SR l G S88 mX9_sumDone (mod_sumDone_36 μ k6 x1 x3 s0) (jI μ) 36 [some (vR 61), some (vI x1), none, some (vI x3)] [vI s0] μ := by
  intro x1 x3 s0
  unfold mod_sumDone_36
  refine sr_istore_n (i := 2) (lv' := [some (vR 61), some (vI x1), some (vI s0), some (vI x3)]) (pc' := 37) dX9_sumDone_36 rfl rfl (by decide) rfl ?_
  refine sr_iload_n (i := 1) (pc' := 38) dX9_sumDone_37 rfl rfl rfl ?_
  refine sr_aload_n (i := 0) (pc' := 39) dX9_sumDone_38 rfl rfl rfl ?_
  refine sr_getR (k := 28) (b := 78) (pc' := 42) cls_X9 dX9_sumDone_39 rfl s88_61 rfl (by decide) w_317 ?_
  refine sr_iload_n (i := 3) (pc' := 43) dX9_sumDone_42 rfl rfl rfl ?_
  refine sr_iald (pc' := 44) dX9_sumDone_43 rfl s88_78 (by decide) (fun v1 hv1 hv1a hv1b => ?_)
  refine sr_iadd (pc' := 45) dX9_sumDone_44 rfl ?_
  refine sr_bnd (fun v2 hv2 => ?_)
  refine sr_istore_n (i := 1) (lv' := [some (vR 61), some (vI v2), some (vI s0), some (vI x3)]) (pc' := 46) dX9_sumDone_45 rfl rfl (by decide) rfl ?_
  refine sr_iinc (lv' := [some (vR 61), some (vI v2), some (vI s0), some (vI (wI (x3 + 1)))]) (pc' := 49) dX9_sumDone_46 rfl (by decide) rfl rfl ?_
  refine sr_goto (pc' := 6) dX9_sumDone_49 rfl ?_
  exact hk6 v2 s0 (wI (x3 + 1))
def mod_sumDone_6 (μ : Mem)  : Nat → Int → Int → Int → Option (Int)
  | 0, _, _, _ => none
  | n + 1, x1, x2, x3 => if (μ 62 0) ≤ x3 then (if x2 = 0 then (some (-4)) else (some x1)) else (if x2 = 0 then (mod_sumDone_36 μ (mod_sumDone_6 μ n) x1 x3 0) else ((ld μ 78 5 x3).bind fun v1 => if v1 = (-4) then (mod_sumDone_36 μ (mod_sumDone_6 μ n) x1 x3 0) else (mod_sumDone_36 μ (mod_sumDone_6 μ n) x1 x3 1)))
theorem mod_sumDone_6_s {l : Launch} {G : Nv}   (μ : Mem)   : ∀ (n : Nat) (x1 x2 x3 : Int), SR l G S88 mX9_sumDone (mod_sumDone_6 μ n x1 x2 x3) (jI μ) 6 [some (vR 61), some (vI x1), some (vI x2), some (vI x3)] [] μ := by
  intro n
  induction n with
  | zero => intro x1 x2 x3; exact sr_none
  | succ n ih =>
    intro x1 x2 x3
    rw [mod_sumDone_6.eq_2]
    refine sr_iload_n (i := 3) (pc' := 7) dX9_sumDone_6 rfl rfl rfl ?_
    refine sr_aload_n (i := 0) (pc' := 8) dX9_sumDone_7 rfl rfl rfl ?_
    refine sr_getR (k := 0) (b := 62) (pc' := 11) cls_X9 dX9_sumDone_8 rfl s88_61 rfl (by decide) w_311 ?_
    refine sr_iconst (pc' := 12) dX9_sumDone_11 rfl (by decide) ?_
    refine sr_ialdc (j := 0) (pc' := 13) dX9_sumDone_12 rfl s88_62 (by decide) (by decide) (by decide) rfl ?_
    refine sr_icmp_ge (pc' := 16) (tgt := 52) dX9_sumDone_13 rfl rfl (fun c13 => ?_) (fun c13 => ?_)
    · refine sr_iload_n (i := 2) (pc' := 53) dX9_sumDone_52 rfl rfl rfl ?_
      refine sr_if_eq (pc' := 56) (tgt := 60) dX9_sumDone_53 rfl rfl (fun c53 => ?_) (fun c53 => ?_)
      · refine sr_bipush (pc' := 62) dX9_sumDone_60 rfl (by decide) (by decide) ?_
        exact sr_iretI dX9_sumDone_62 rfl rfl
      · refine sr_iload_n (i := 1) (pc' := 57) dX9_sumDone_56 rfl rfl rfl ?_
        refine sr_goto (pc' := 62) dX9_sumDone_57 rfl ?_
        exact sr_iretI dX9_sumDone_62 rfl rfl
    · refine sr_iload_n (i := 2) (pc' := 17) dX9_sumDone_16 rfl rfl rfl ?_
      refine sr_if_eq (pc' := 20) (tgt := 35) dX9_sumDone_17 rfl rfl (fun c17 => ?_) (fun c17 => ?_)
      · refine sr_iconst (pc' := 36) dX9_sumDone_35 rfl (by decide) ?_
        refine sr_fgt (fgt_s (fgt_s (fgt_n (fgt_s fgt_nil)))) ?_
        exact mod_sumDone_36_s μ ih x1 x3 0
      · refine sr_aload_n (i := 0) (pc' := 21) dX9_sumDone_20 rfl rfl rfl ?_
        refine sr_getR (k := 28) (b := 78) (pc' := 24) cls_X9 dX9_sumDone_21 rfl s88_61 rfl (by decide) w_317 ?_
        refine sr_iload_n (i := 3) (pc' := 25) dX9_sumDone_24 rfl rfl rfl ?_
        refine sr_iald (pc' := 26) dX9_sumDone_25 rfl s88_78 (by decide) (fun v1 hv1 hv1a hv1b => ?_)
        refine sr_bipush (pc' := 28) dX9_sumDone_26 rfl (by decide) (by decide) ?_
        refine sr_icmp_eq (pc' := 31) (tgt := 35) dX9_sumDone_28 rfl rfl (fun c28 => ?_) (fun c28 => ?_)
        · refine sr_iconst (pc' := 36) dX9_sumDone_35 rfl (by decide) ?_
          refine sr_fgt (fgt_s (fgt_s (fgt_n (fgt_s fgt_nil)))) ?_
          exact mod_sumDone_36_s μ ih x1 x3 0
        · refine sr_iconst (pc' := 32) dX9_sumDone_31 rfl (by decide) ?_
          refine sr_goto (pc' := 36) dX9_sumDone_32 rfl ?_
          refine sr_fgt (fgt_s (fgt_s (fgt_n (fgt_s fgt_nil)))) ?_
          exact mod_sumDone_36_s μ ih x1 x3 1
def mod_sumDone (μ : Mem)  : Option (Int) := mod_sumDone_6 μ BIG 0 1 0
theorem mod_sumDone_sp {l : Launch} {G : Nv}   (μ : Mem) : SP l G S88 mX9_sumDone [vR 61] μ (mod_sumDone μ) (jI μ) := by
  refine sp_go (lv := [some (vR 61), none, none, none]) pn_X9 (Nat.le_of_ble_eq_true rfl) rfl ?_
  unfold mod_sumDone
  refine sr_iconst (pc' := 1) dX9_sumDone_0 rfl (by decide) ?_
  refine sr_istore_n (i := 1) (lv' := [some (vR 61), some (vI 0), none, none]) (pc' := 2) dX9_sumDone_1 rfl rfl (by decide) rfl ?_
  refine sr_iconst (pc' := 3) dX9_sumDone_2 rfl (by decide) ?_
  refine sr_istore_n (i := 2) (lv' := [some (vR 61), some (vI 0), some (vI 1), none]) (pc' := 4) dX9_sumDone_3 rfl rfl (by decide) rfl ?_
  refine sr_iconst (pc' := 5) dX9_sumDone_4 rfl (by decide) ?_
  refine sr_istore_n (i := 3) (lv' := [some (vR 61), some (vI 0), some (vI 1), some (vI 0)]) (pc' := 6) dX9_sumDone_5 rfl rfl (by decide) rfl ?_
  exact mod_sumDone_6_s μ BIG 0 1 0
def mod_areDone   (μ : Mem) : Option (Int × Mem) := (mod_runs 60 μ).bind fun μ1 => (mod_sumDone μ1).bind fun u2 => if u2 = (-4) then (some (0, μ1)) else (some (1, μ1))
theorem mod_areDone_sp {l : Launch} {G : Nv}   (μ : Mem) : SP l G S88 mX9_areDone [vR 61] μ (mod_areDone μ) jIM := by
  refine sp_go (lv := [some (vR 61)]) pn_X9 (Nat.le_of_ble_eq_true rfl) rfl ?_
  unfold mod_areDone
  refine sr_aload_n (i := 0) (pc' := 1) dX9_areDone_0 rfl rfl rfl ?_
  refine sr_bipush (pc' := 3) dX9_areDone_1 rfl (by decide) (by decide) ?_
  refine sr_callV1_M (pc' := 6) (mod_runs_sp 60 μ) dX9_areDone_3 rfl mg_X9_runs mi_X9_runs (Or.inl ⟨9, _, TX9, 40, s88_61, rfl⟩) ⟨Nat.le_of_ble_eq_true rfl, Nat.le_of_ble_eq_true rfl⟩ w_328 (Nat.le_of_ble_eq_true rfl) (fun μ1 hμ1 => ?_)
  refine sr_aload_n (i := 0) (pc' := 7) dX9_areDone_6 rfl rfl rfl ?_
  refine sr_callV0_I (pc' := 10) (mod_sumDone_sp μ1) dX9_areDone_7 rfl mg_X9_sumDone mi_X9_sumDone (Or.inl ⟨9, _, TX9, 40, s88_61, rfl⟩) ⟨Nat.le_of_ble_eq_true rfl, Nat.le_of_ble_eq_true rfl⟩ w_329 (Nat.le_of_ble_eq_true rfl) (fun u2 hu2 hcu2 hzu2 => ?_)
  refine sr_bipush (pc' := 12) dX9_areDone_10 rfl (by decide) (by decide) ?_
  refine sr_icmp_eq (pc' := 15) (tgt := 19) dX9_areDone_12 rfl rfl (fun c12 => ?_) (fun c12 => ?_)
  · refine sr_iconst (pc' := 20) dX9_areDone_19 rfl (by decide) ?_
    exact sr_iretZ dX9_areDone_20 rfl (Or.inl rfl) rfl
  · refine sr_iconst (pc' := 16) dX9_areDone_15 rfl (by decide) ?_
    refine sr_goto (pc' := 20) dX9_areDone_16 rfl ?_
    exact sr_iretZ dX9_areDone_20 rfl (Or.inr rfl) rfl
def mod_fills_43  (k4 : Int → Int → Int → Mem → Option (Int × Mem)) (x1 x3 s0 : Int) (μ : Mem) : Option (Int × Mem) := (stx μ 62 555 (wI ((wI (36 + (wI (3 * x1)))) + x3)) 0).bind fun μ1 => k4 x1 s0 (wI (x3 + 1)) μ1
theorem mod_fills_43_s {l : Launch} {G : Nv}   {k4 : Int → Int → Int → Mem → Option (Int × Mem)} (hk4 : ∀ (x1 x2 x3 : Int) (μ : Mem) , SR l G S88 mX9_fills (k4 x1 x2 x3 μ) jIM 4 [some (vR 61), some (vI x1), some (vI x2), some (vI x3)] [] μ) : ∀ (x1 x3 s0 : Int) (μ : Mem), SR l G S88 mX9_fills (mod_fills_43 k4 x1 x3 s0 μ) jIM 43 [some (vR 61), some (vI x1), none, some (vI x3)] [vI s0] μ := by
  intro x1 x3 s0 μ
  unfold mod_fills_43
  refine sr_istore_n (i := 2) (lv' := [some (vR 61), some (vI x1), some (vI s0), some (vI x3)]) (pc' := 44) dX9_fills_43 rfl rfl (by decide) rfl ?_
  refine sr_aload_n (i := 0) (pc' := 45) dX9_fills_44 rfl rfl rfl ?_
  refine sr_getR (k := 0) (b := 62) (pc' := 48) cls_X9 dX9_fills_45 rfl s88_61 rfl (by decide) w_311 ?_
  refine sr_bipush (pc' := 50) dX9_fills_48 rfl (by decide) (by decide) ?_
  refine sr_iconst (pc' := 51) dX9_fills_50 rfl (by decide) ?_
  refine sr_iload_n (i := 1) (pc' := 52) dX9_fills_51 rfl rfl rfl ?_
  refine sr_imul (pc' := 53) dX9_fills_52 rfl ?_
  refine sr_iadd (pc' := 54) dX9_fills_53 rfl ?_
  refine sr_iload_n (i := 3) (pc' := 55) dX9_fills_54 rfl rfl rfl ?_
  refine sr_iadd (pc' := 56) dX9_fills_55 rfl ?_
  refine sr_iconst (pc' := 57) dX9_fills_56 rfl (by decide) ?_
  refine sr_iast (pc' := 58) dX9_fills_57 rfl s88_62 (by decide) (fun μ1 hμ1 hμ1a hμ1b => ?_)
  refine sr_iinc (lv' := [some (vR 61), some (vI x1), some (vI s0), some (vI (wI (x3 + 1)))]) (pc' := 61) dX9_fills_58 rfl (by decide) rfl rfl ?_
  refine sr_goto (pc' := 4) dX9_fills_61 rfl ?_
  exact hk4 x1 s0 (wI (x3 + 1)) μ1
def mod_fills_4   : Nat → Int → Int → Int → Mem → Option (Int × Mem)
  | 0, _, _, _, _ => none
  | n + 1, x1, x2, x3, μ => if 3 ≤ x3 then (some (x2, μ)) else ((ld μ 62 555 (wI ((wI (36 + (wI (3 * x1)))) + x3))).bind fun v1 => if v1 ≤ x2 then (mod_fills_43 (mod_fills_4 n) x1 x3 x2 μ) else ((ld μ 62 555 (wI ((wI (36 + (wI (3 * x1)))) + x3))).bind fun v2 => mod_fills_43 (mod_fills_4 n) x1 x3 v2 μ))
theorem mod_fills_4_s {l : Launch} {G : Nv}     : ∀ (n : Nat) (x1 x2 x3 : Int) (μ : Mem), SR l G S88 mX9_fills (mod_fills_4 n x1 x2 x3 μ) jIM 4 [some (vR 61), some (vI x1), some (vI x2), some (vI x3)] [] μ := by
  intro n
  induction n with
  | zero => intro x1 x2 x3 μ; exact sr_none
  | succ n ih =>
    intro x1 x2 x3 μ
    rw [mod_fills_4.eq_2]
    refine sr_iload_n (i := 3) (pc' := 5) dX9_fills_4 rfl rfl rfl ?_
    refine sr_iconst (pc' := 6) dX9_fills_5 rfl (by decide) ?_
    refine sr_icmp_ge (pc' := 9) (tgt := 64) dX9_fills_6 rfl rfl (fun c6 => ?_) (fun c6 => ?_)
    · refine sr_iload_n (i := 2) (pc' := 65) dX9_fills_64 rfl rfl rfl ?_
      exact sr_iretI dX9_fills_65 rfl rfl
    · refine sr_aload_n (i := 0) (pc' := 10) dX9_fills_9 rfl rfl rfl ?_
      refine sr_getR (k := 0) (b := 62) (pc' := 13) cls_X9 dX9_fills_10 rfl s88_61 rfl (by decide) w_311 ?_
      refine sr_bipush (pc' := 15) dX9_fills_13 rfl (by decide) (by decide) ?_
      refine sr_iconst (pc' := 16) dX9_fills_15 rfl (by decide) ?_
      refine sr_iload_n (i := 1) (pc' := 17) dX9_fills_16 rfl rfl rfl ?_
      refine sr_imul (pc' := 18) dX9_fills_17 rfl ?_
      refine sr_iadd (pc' := 19) dX9_fills_18 rfl ?_
      refine sr_iload_n (i := 3) (pc' := 20) dX9_fills_19 rfl rfl rfl ?_
      refine sr_iadd (pc' := 21) dX9_fills_20 rfl ?_
      refine sr_iald (pc' := 22) dX9_fills_21 rfl s88_62 (by decide) (fun v1 hv1 hv1a hv1b => ?_)
      refine sr_iload_n (i := 2) (pc' := 23) dX9_fills_22 rfl rfl rfl ?_
      refine sr_icmp_le (pc' := 26) (tgt := 42) dX9_fills_23 rfl rfl (fun c23 => ?_) (fun c23 => ?_)
      · refine sr_iload_n (i := 2) (pc' := 43) dX9_fills_42 rfl rfl rfl ?_
        refine sr_fgt (fgt_s (fgt_s (fgt_n (fgt_s fgt_nil)))) ?_
        exact mod_fills_43_s ih x1 x3 x2 μ
      · refine sr_aload_n (i := 0) (pc' := 27) dX9_fills_26 rfl rfl rfl ?_
        refine sr_getR (k := 0) (b := 62) (pc' := 30) cls_X9 dX9_fills_27 rfl s88_61 rfl (by decide) w_311 ?_
        refine sr_bipush (pc' := 32) dX9_fills_30 rfl (by decide) (by decide) ?_
        refine sr_iconst (pc' := 33) dX9_fills_32 rfl (by decide) ?_
        refine sr_iload_n (i := 1) (pc' := 34) dX9_fills_33 rfl rfl rfl ?_
        refine sr_imul (pc' := 35) dX9_fills_34 rfl ?_
        refine sr_iadd (pc' := 36) dX9_fills_35 rfl ?_
        refine sr_iload_n (i := 3) (pc' := 37) dX9_fills_36 rfl rfl rfl ?_
        refine sr_iadd (pc' := 38) dX9_fills_37 rfl ?_
        refine sr_iald (pc' := 39) dX9_fills_38 rfl s88_62 (by decide) (fun v2 hv2 hv2a hv2b => ?_)
        refine sr_goto (pc' := 43) dX9_fills_39 rfl ?_
        refine sr_fgt (fgt_s (fgt_s (fgt_n (fgt_s fgt_nil)))) ?_
        exact mod_fills_43_s ih x1 x3 v2 μ
def mod_fills   (x1 : Int) (μ : Mem) : Option (Int × Mem) := mod_fills_4 BIG x1 0 0 μ
theorem mod_fills_sp {l : Launch} {G : Nv}   (x1 : Int) (μ : Mem) : SP l G S88 mX9_fills [vR 61, vI x1] μ (mod_fills x1 μ) jIM := by
  refine sp_go (lv := [some (vR 61), some (vI x1), none, none]) pn_X9 (Nat.le_of_ble_eq_true rfl) rfl ?_
  unfold mod_fills
  refine sr_iconst (pc' := 1) dX9_fills_0 rfl (by decide) ?_
  refine sr_istore_n (i := 2) (lv' := [some (vR 61), some (vI x1), some (vI 0), none]) (pc' := 2) dX9_fills_1 rfl rfl (by decide) rfl ?_
  refine sr_iconst (pc' := 3) dX9_fills_2 rfl (by decide) ?_
  refine sr_istore_n (i := 3) (lv' := [some (vR 61), some (vI x1), some (vI 0), some (vI 0)]) (pc' := 4) dX9_fills_3 rfl rfl (by decide) rfl ?_
  exact mod_fills_4_s BIG x1 0 0 μ
def mod_areDoneBy_49   : Nat → Int → Int → Mem → Option (Int × Mem)
  | 0, _, _, _ => none
  | n + 1, x3, x4, μ => if 63 ≤ x4 then (some (zN x3, μ)) else ((ld μ 82 63 x4).bind fun v1 => (stx μ 62 555 (wI (36 + x4)) v1).bind fun μ2 => mod_areDoneBy_49 n x3 (wI (x4 + 1)) μ2)
theorem mod_areDoneBy_49_s {l : Launch} {G : Nv}     : ∀ (n : Nat) (x3 x4 : Int) (μ : Mem), SR l G S88 mX9_areDoneBy (mod_areDoneBy_49 n x3 x4 μ) jIM 49 [some (vR 61), none, none, some (vI x3), some (vI x4)] [] μ := by
  intro n
  induction n with
  | zero => intro x3 x4 μ; exact sr_none
  | succ n ih =>
    intro x3 x4 μ
    rw [mod_areDoneBy_49.eq_2]
    refine sr_iload (pc' := 51) dX9_areDoneBy_49 rfl rfl ?_
    refine sr_bipush (pc' := 53) dX9_areDoneBy_51 rfl (by decide) (by decide) ?_
    refine sr_icmp_ge (pc' := 56) (tgt := 79) dX9_areDoneBy_53 rfl rfl (fun c53 => ?_) (fun c53 => ?_)
    · refine sr_iload_n (i := 3) (pc' := 80) dX9_areDoneBy_79 rfl rfl rfl ?_
      exact sr_iretN dX9_areDoneBy_80 rfl rfl
    · refine sr_aload_n (i := 0) (pc' := 57) dX9_areDoneBy_56 rfl rfl rfl ?_
      refine sr_getR (k := 0) (b := 62) (pc' := 60) cls_X9 dX9_areDoneBy_57 rfl s88_61 rfl (by decide) w_311 ?_
      refine sr_bipush (pc' := 62) dX9_areDoneBy_60 rfl (by decide) (by decide) ?_
      refine sr_iload (pc' := 64) dX9_areDoneBy_62 rfl rfl ?_
      refine sr_iadd (pc' := 65) dX9_areDoneBy_64 rfl ?_
      refine sr_aload_n (i := 0) (pc' := 66) dX9_areDoneBy_65 rfl rfl rfl ?_
      refine sr_getR (k := 33) (b := 82) (pc' := 69) cls_X9 dX9_areDoneBy_66 rfl s88_61 rfl (by decide) w_330 ?_
      refine sr_iload (pc' := 71) dX9_areDoneBy_69 rfl rfl ?_
      refine sr_iald (pc' := 72) dX9_areDoneBy_71 rfl s88_82 (by decide) (fun v1 hv1 hv1a hv1b => ?_)
      refine sr_iast (pc' := 73) dX9_areDoneBy_72 rfl s88_62 (by decide) (fun μ2 hμ2 hμ2a hμ2b => ?_)
      refine sr_iinc (lv' := [some (vR 61), none, none, some (vI x3), some (vI (wI (x4 + 1)))]) (pc' := 76) dX9_areDoneBy_73 rfl (by decide) rfl rfl ?_
      refine sr_goto (pc' := 49) dX9_areDoneBy_76 rfl ?_
      exact ih x3 (wI (x4 + 1)) μ2
def mod_areDoneBy_2   : Nat → Int → Int → Int → Mem → Option (Int × Mem)
  | 0, _, _, _, _ => none
  | n + 1, x1, x2, x3, μ => if 63 ≤ x3 then ((mod_fills x1 μ).bind fun u1 => (mod_fills x2 u1.2).bind fun u2 => (mod_areDone u2.2).bind fun u3 => mod_areDoneBy_49 BIG u3.1 0 u3.2) else ((ld μ 62 555 (wI (36 + x3))).bind fun v4 => (stx μ 82 63 x3 v4).bind fun μ5 => mod_areDoneBy_2 n x1 x2 (wI (x3 + 1)) μ5)
theorem mod_areDoneBy_2_s {l : Launch} {G : Nv}     : ∀ (n : Nat) (x1 x2 x3 : Int) (μ : Mem), SR l G S88 mX9_areDoneBy (mod_areDoneBy_2 n x1 x2 x3 μ) jIM 2 [some (vR 61), some (vI x1), some (vI x2), some (vI x3), none] [] μ := by
  intro n
  induction n with
  | zero => intro x1 x2 x3 μ; exact sr_none
  | succ n ih =>
    intro x1 x2 x3 μ
    rw [mod_areDoneBy_2.eq_2]
    refine sr_iload_n (i := 3) (pc' := 3) dX9_areDoneBy_2 rfl rfl rfl ?_
    refine sr_bipush (pc' := 5) dX9_areDoneBy_3 rfl (by decide) (by decide) ?_
    refine sr_icmp_ge (pc' := 8) (tgt := 29) dX9_areDoneBy_5 rfl rfl (fun c5 => ?_) (fun c5 => ?_)
    · refine sr_aload_n (i := 0) (pc' := 30) dX9_areDoneBy_29 rfl rfl rfl ?_
      refine sr_iload_n (i := 1) (pc' := 31) dX9_areDoneBy_30 rfl rfl rfl ?_
      refine sr_callV1_IM (pc' := 34) (mod_fills_sp x1 μ) dX9_areDoneBy_31 rfl mg_X9_fills mi_X9_fills (Or.inl ⟨9, _, TX9, 40, s88_61, rfl⟩) ⟨Nat.le_of_ble_eq_true rfl, Nat.le_of_ble_eq_true rfl⟩ w_331 (Nat.le_of_ble_eq_true rfl) (fun u1 hu1 hcu1 hzu1 => ?_)
      refine sr_pop (pc' := 35) dX9_areDoneBy_34 rfl rfl ?_
      refine sr_aload_n (i := 0) (pc' := 36) dX9_areDoneBy_35 rfl rfl rfl ?_
      refine sr_iload_n (i := 2) (pc' := 37) dX9_areDoneBy_36 rfl rfl rfl ?_
      refine sr_callV1_IM (pc' := 40) (mod_fills_sp x2 u1.2) dX9_areDoneBy_37 rfl mg_X9_fills mi_X9_fills (Or.inl ⟨9, _, TX9, 40, s88_61, rfl⟩) ⟨Nat.le_of_ble_eq_true rfl, Nat.le_of_ble_eq_true rfl⟩ w_331 (Nat.le_of_ble_eq_true rfl) (fun u2 hu2 hcu2 hzu2 => ?_)
      refine sr_pop (pc' := 41) dX9_areDoneBy_40 rfl rfl ?_
      refine sr_aload_n (i := 0) (pc' := 42) dX9_areDoneBy_41 rfl rfl rfl ?_
      refine sr_callV0_IM (pc' := 45) (mod_areDone_sp u2.2) dX9_areDoneBy_42 rfl mg_X9_areDone mi_X9_areDone (Or.inl ⟨9, _, TX9, 40, s88_61, rfl⟩) ⟨Nat.le_of_ble_eq_true rfl, Nat.le_of_ble_eq_true rfl⟩ w_332 (Nat.le_of_ble_eq_true rfl) (fun u3 hu3 hcu3 hzu3 => ?_)
      refine sr_istore_n (i := 3) (lv' := [some (vR 61), some (vI x1), some (vI x2), some (vI u3.1), none]) (pc' := 46) dX9_areDoneBy_45 rfl rfl (by decide) rfl ?_
      refine sr_iconst (pc' := 47) dX9_areDoneBy_46 rfl (by decide) ?_
      refine sr_istore (lv' := [some (vR 61), some (vI x1), some (vI x2), some (vI u3.1), some (vI 0)]) (pc' := 49) dX9_areDoneBy_47 rfl (by decide) rfl ?_
      refine sr_fgt (fgt_s (fgt_n (fgt_n (fgt_s (fgt_s fgt_nil))))) ?_
      exact mod_areDoneBy_49_s BIG u3.1 0 u3.2
    · refine sr_aload_n (i := 0) (pc' := 9) dX9_areDoneBy_8 rfl rfl rfl ?_
      refine sr_getR (k := 33) (b := 82) (pc' := 12) cls_X9 dX9_areDoneBy_9 rfl s88_61 rfl (by decide) w_330 ?_
      refine sr_iload_n (i := 3) (pc' := 13) dX9_areDoneBy_12 rfl rfl rfl ?_
      refine sr_aload_n (i := 0) (pc' := 14) dX9_areDoneBy_13 rfl rfl rfl ?_
      refine sr_getR (k := 0) (b := 62) (pc' := 17) cls_X9 dX9_areDoneBy_14 rfl s88_61 rfl (by decide) w_311 ?_
      refine sr_bipush (pc' := 19) dX9_areDoneBy_17 rfl (by decide) (by decide) ?_
      refine sr_iload_n (i := 3) (pc' := 20) dX9_areDoneBy_19 rfl rfl rfl ?_
      refine sr_iadd (pc' := 21) dX9_areDoneBy_20 rfl ?_
      refine sr_iald (pc' := 22) dX9_areDoneBy_21 rfl s88_62 (by decide) (fun v4 hv4 hv4a hv4b => ?_)
      refine sr_iast (pc' := 23) dX9_areDoneBy_22 rfl s88_82 (by decide) (fun μ5 hμ5 hμ5a hμ5b => ?_)
      refine sr_iinc (lv' := [some (vR 61), some (vI x1), some (vI x2), some (vI (wI (x3 + 1))), none]) (pc' := 26) dX9_areDoneBy_23 rfl (by decide) rfl rfl ?_
      refine sr_goto (pc' := 2) dX9_areDoneBy_26 rfl ?_
      exact ih x1 x2 (wI (x3 + 1)) μ5
def mod_areDoneBy   (x1 x2 : Int) (μ : Mem) : Option (Int × Mem) := mod_areDoneBy_2 BIG x1 x2 0 μ
theorem mod_areDoneBy_sp {l : Launch} {G : Nv}   (x1 x2 : Int) (μ : Mem) : SP l G S88 mX9_areDoneBy [vR 61, vI x1, vI x2] μ (mod_areDoneBy x1 x2 μ) jIM := by
  refine sp_go (lv := [some (vR 61), some (vI x1), some (vI x2), none, none]) pn_X9 (Nat.le_of_ble_eq_true rfl) rfl ?_
  unfold mod_areDoneBy
  refine sr_iconst (pc' := 1) dX9_areDoneBy_0 rfl (by decide) ?_
  refine sr_istore_n (i := 3) (lv' := [some (vR 61), some (vI x1), some (vI x2), some (vI 0), none]) (pc' := 2) dX9_areDoneBy_1 rfl rfl (by decide) rfl ?_
  exact mod_areDoneBy_2_s BIG x1 x2 0 μ
def mod_areFirm_41 (μ : Mem)  (x1 x2 x3 s0 : Int) : Option (Int) := if s0 = 0 then (some 0) else (if (wI ((wI (x1 + x2)) + x3)) = (μ 62 167) then (if (μ 62 163) < (wI (x1 + x2)) then (some 0) else (if (μ 62 165) < (wI (x1 + x3)) then (some 0) else (if (μ 62 166) < (wI (x2 + x3)) then (some 0) else (some 1)))) else (some 0))
theorem mod_areFirm_41_s {l : Launch} {G : Nv}   (μ : Mem)   : ∀ (x1 x2 x3 s0 : Int), SR l G S88 mX9_areFirm (mod_areFirm_41 μ x1 x2 x3 s0) (jI μ) 41 [some (vR 61), some (vI x1), some (vI x2), some (vI x3), none] [vI s0] μ := by
  intro x1 x2 x3 s0
  unfold mod_areFirm_41
  refine sr_istore (lv' := [some (vR 61), some (vI x1), some (vI x2), some (vI x3), some (vI s0)]) (pc' := 43) dX9_areFirm_41 rfl (by decide) rfl ?_
  refine sr_iload (pc' := 45) dX9_areFirm_43 rfl rfl ?_
  refine sr_if_eq (pc' := 48) (tgt := 110) dX9_areFirm_45 rfl rfl (fun c45 => ?_) (fun c45 => ?_)
  · refine sr_iconst (pc' := 111) dX9_areFirm_110 rfl (by decide) ?_
    exact sr_iretZ dX9_areFirm_111 rfl (Or.inl rfl) rfl
  · refine sr_iload_n (i := 1) (pc' := 49) dX9_areFirm_48 rfl rfl rfl ?_
    refine sr_iload_n (i := 2) (pc' := 50) dX9_areFirm_49 rfl rfl rfl ?_
    refine sr_iadd (pc' := 51) dX9_areFirm_50 rfl ?_
    refine sr_iload_n (i := 3) (pc' := 52) dX9_areFirm_51 rfl rfl rfl ?_
    refine sr_iadd (pc' := 53) dX9_areFirm_52 rfl ?_
    refine sr_aload_n (i := 0) (pc' := 54) dX9_areFirm_53 rfl rfl rfl ?_
    refine sr_getR (k := 0) (b := 62) (pc' := 57) cls_X9 dX9_areFirm_54 rfl s88_61 rfl (by decide) w_311 ?_
    refine sr_sipush (pc' := 60) dX9_areFirm_57 rfl (by decide) (by decide) ?_
    refine sr_ialdc (j := 167) (pc' := 61) dX9_areFirm_60 rfl s88_62 (by decide) (by decide) (by decide) rfl ?_
    refine sr_icmp_ne (pc' := 64) (tgt := 110) dX9_areFirm_61 rfl rfl (fun c61 => ?_) (fun c61 => ?_)
    · refine sr_iload_n (i := 1) (pc' := 65) dX9_areFirm_64 rfl rfl rfl ?_
      refine sr_iload_n (i := 2) (pc' := 66) dX9_areFirm_65 rfl rfl rfl ?_
      refine sr_iadd (pc' := 67) dX9_areFirm_66 rfl ?_
      refine sr_aload_n (i := 0) (pc' := 68) dX9_areFirm_67 rfl rfl rfl ?_
      refine sr_getR (k := 0) (b := 62) (pc' := 71) cls_X9 dX9_areFirm_68 rfl s88_61 rfl (by decide) w_311 ?_
      refine sr_sipush (pc' := 74) dX9_areFirm_71 rfl (by decide) (by decide) ?_
      refine sr_ialdc (j := 163) (pc' := 75) dX9_areFirm_74 rfl s88_62 (by decide) (by decide) (by decide) rfl ?_
      refine sr_icmp_gt (pc' := 78) (tgt := 110) dX9_areFirm_75 rfl rfl (fun c75 => ?_) (fun c75 => ?_)
      · refine sr_iconst (pc' := 111) dX9_areFirm_110 rfl (by decide) ?_
        exact sr_iretZ dX9_areFirm_111 rfl (Or.inl rfl) rfl
      · refine sr_iload_n (i := 1) (pc' := 79) dX9_areFirm_78 rfl rfl rfl ?_
        refine sr_iload_n (i := 3) (pc' := 80) dX9_areFirm_79 rfl rfl rfl ?_
        refine sr_iadd (pc' := 81) dX9_areFirm_80 rfl ?_
        refine sr_aload_n (i := 0) (pc' := 82) dX9_areFirm_81 rfl rfl rfl ?_
        refine sr_getR (k := 0) (b := 62) (pc' := 85) cls_X9 dX9_areFirm_82 rfl s88_61 rfl (by decide) w_311 ?_
        refine sr_sipush (pc' := 88) dX9_areFirm_85 rfl (by decide) (by decide) ?_
        refine sr_ialdc (j := 165) (pc' := 89) dX9_areFirm_88 rfl s88_62 (by decide) (by decide) (by decide) rfl ?_
        refine sr_icmp_gt (pc' := 92) (tgt := 110) dX9_areFirm_89 rfl rfl (fun c89 => ?_) (fun c89 => ?_)
        · refine sr_iconst (pc' := 111) dX9_areFirm_110 rfl (by decide) ?_
          exact sr_iretZ dX9_areFirm_111 rfl (Or.inl rfl) rfl
        · refine sr_iload_n (i := 2) (pc' := 93) dX9_areFirm_92 rfl rfl rfl ?_
          refine sr_iload_n (i := 3) (pc' := 94) dX9_areFirm_93 rfl rfl rfl ?_
          refine sr_iadd (pc' := 95) dX9_areFirm_94 rfl ?_
          refine sr_aload_n (i := 0) (pc' := 96) dX9_areFirm_95 rfl rfl rfl ?_
          refine sr_getR (k := 0) (b := 62) (pc' := 99) cls_X9 dX9_areFirm_96 rfl s88_61 rfl (by decide) w_311 ?_
          refine sr_sipush (pc' := 102) dX9_areFirm_99 rfl (by decide) (by decide) ?_
          refine sr_ialdc (j := 166) (pc' := 103) dX9_areFirm_102 rfl s88_62 (by decide) (by decide) (by decide) rfl ?_
          refine sr_icmp_gt (pc' := 106) (tgt := 110) dX9_areFirm_103 rfl rfl (fun c103 => ?_) (fun c103 => ?_)
          · refine sr_iconst (pc' := 111) dX9_areFirm_110 rfl (by decide) ?_
            exact sr_iretZ dX9_areFirm_111 rfl (Or.inl rfl) rfl
          · refine sr_iconst (pc' := 107) dX9_areFirm_106 rfl (by decide) ?_
            refine sr_goto (pc' := 111) dX9_areFirm_107 rfl ?_
            exact sr_iretZ dX9_areFirm_111 rfl (Or.inr rfl) rfl
    · refine sr_iconst (pc' := 111) dX9_areFirm_110 rfl (by decide) ?_
      exact sr_iretZ dX9_areFirm_111 rfl (Or.inl rfl) rfl
def mod_areFirm (μ : Mem)  (x1 x2 x3 : Int) : Option (Int) := if (μ 62 161) < x1 then (mod_areFirm_41 μ x1 x2 x3 0) else (if (μ 62 162) < x2 then (mod_areFirm_41 μ x1 x2 x3 0) else (if (μ 62 164) < x3 then (mod_areFirm_41 μ x1 x2 x3 0) else (mod_areFirm_41 μ x1 x2 x3 1)))
theorem mod_areFirm_sp {l : Launch} {G : Nv}   (x1 x2 x3 : Int) (μ : Mem) : SP l G S88 mX9_areFirm [vR 61, vI x1, vI x2, vI x3] μ (mod_areFirm μ x1 x2 x3) (jI μ) := by
  refine sp_go (lv := [some (vR 61), some (vI x1), some (vI x2), some (vI x3), none]) pn_X9 (Nat.le_of_ble_eq_true rfl) rfl ?_
  unfold mod_areFirm
  refine sr_iload_n (i := 1) (pc' := 1) dX9_areFirm_0 rfl rfl rfl ?_
  refine sr_aload_n (i := 0) (pc' := 2) dX9_areFirm_1 rfl rfl rfl ?_
  refine sr_getR (k := 0) (b := 62) (pc' := 5) cls_X9 dX9_areFirm_2 rfl s88_61 rfl (by decide) w_311 ?_
  refine sr_sipush (pc' := 8) dX9_areFirm_5 rfl (by decide) (by decide) ?_
  refine sr_ialdc (j := 161) (pc' := 9) dX9_areFirm_8 rfl s88_62 (by decide) (by decide) (by decide) rfl ?_
  refine sr_icmp_gt (pc' := 12) (tgt := 40) dX9_areFirm_9 rfl rfl (fun c9 => ?_) (fun c9 => ?_)
  · refine sr_iconst (pc' := 41) dX9_areFirm_40 rfl (by decide) ?_
    exact mod_areFirm_41_s μ x1 x2 x3 0
  · refine sr_iload_n (i := 2) (pc' := 13) dX9_areFirm_12 rfl rfl rfl ?_
    refine sr_aload_n (i := 0) (pc' := 14) dX9_areFirm_13 rfl rfl rfl ?_
    refine sr_getR (k := 0) (b := 62) (pc' := 17) cls_X9 dX9_areFirm_14 rfl s88_61 rfl (by decide) w_311 ?_
    refine sr_sipush (pc' := 20) dX9_areFirm_17 rfl (by decide) (by decide) ?_
    refine sr_ialdc (j := 162) (pc' := 21) dX9_areFirm_20 rfl s88_62 (by decide) (by decide) (by decide) rfl ?_
    refine sr_icmp_gt (pc' := 24) (tgt := 40) dX9_areFirm_21 rfl rfl (fun c21 => ?_) (fun c21 => ?_)
    · refine sr_iconst (pc' := 41) dX9_areFirm_40 rfl (by decide) ?_
      exact mod_areFirm_41_s μ x1 x2 x3 0
    · refine sr_iload_n (i := 3) (pc' := 25) dX9_areFirm_24 rfl rfl rfl ?_
      refine sr_aload_n (i := 0) (pc' := 26) dX9_areFirm_25 rfl rfl rfl ?_
      refine sr_getR (k := 0) (b := 62) (pc' := 29) cls_X9 dX9_areFirm_26 rfl s88_61 rfl (by decide) w_311 ?_
      refine sr_sipush (pc' := 32) dX9_areFirm_29 rfl (by decide) (by decide) ?_
      refine sr_ialdc (j := 164) (pc' := 33) dX9_areFirm_32 rfl s88_62 (by decide) (by decide) (by decide) rfl ?_
      refine sr_icmp_gt (pc' := 36) (tgt := 40) dX9_areFirm_33 rfl rfl (fun c33 => ?_) (fun c33 => ?_)
      · refine sr_iconst (pc' := 41) dX9_areFirm_40 rfl (by decide) ?_
        exact mod_areFirm_41_s μ x1 x2 x3 0
      · refine sr_iconst (pc' := 37) dX9_areFirm_36 rfl (by decide) ?_
        refine sr_goto (pc' := 41) dX9_areFirm_37 rfl ?_
        exact mod_areFirm_41_s μ x1 x2 x3 1
def mod_areRuts_60 (μ : Mem) (k12 : Int → Int → Int → Option (Int)) (x2 x3 s0 : Int) : Option (Int) := k12 s0 x2 (wI (x3 + 1))
theorem mod_areRuts_60_s {l : Launch} {G : Nv}   (μ : Mem) {k12 : Int → Int → Int → Option (Int)} (hk12 : ∀ (x1 x2 x3 : Int) , SR l G S88 mX9_areRuts (k12 x1 x2 x3) (jI μ) 12 [some (vR 61), some (vI x1), some (vI x2), some (vI x3)] [] μ) : ∀ (x2 x3 s0 : Int), SR l G S88 mX9_areRuts (mod_areRuts_60 μ k12 x2 x3 s0) (jI μ) 60 [some (vR 61), none, some (vI x2), some (vI x3)] [vI s0] μ := by
  intro x2 x3 s0
  unfold mod_areRuts_60
  refine sr_istore_n (i := 1) (lv' := [some (vR 61), some (vI s0), some (vI x2), some (vI x3)]) (pc' := 61) dX9_areRuts_60 rfl rfl (by decide) rfl ?_
  refine sr_iinc (lv' := [some (vR 61), some (vI s0), some (vI x2), some (vI (wI (x3 + 1)))]) (pc' := 64) dX9_areRuts_61 rfl (by decide) rfl rfl ?_
  refine sr_goto (pc' := 12) dX9_areRuts_64 rfl ?_
  exact hk12 s0 x2 (wI (x3 + 1))
def mod_areRuts_12 (μ : Mem) (k4 : Int → Int → Option (Int)) : Nat → Int → Int → Int → Option (Int)
  | 0, _, _, _ => none
  | n + 1, x1, x2, x3 => if 3 ≤ x3 then (k4 x1 (wI (x2 + 1))) else (if x1 = 0 then (mod_areRuts_60 μ (mod_areRuts_12 μ k4 n) x2 x3 0) else ((ld μ 73 63 (wI ((wI (3 * x2)) + x3))).bind fun v1 => if v1 = 0 then (mod_areRuts_60 μ (mod_areRuts_12 μ k4 n) x2 x3 1) else ((ld μ 70 21 x2).bind fun v2 => if v2 = (-4) then (mod_areRuts_60 μ (mod_areRuts_12 μ k4 n) x2 x3 1) else ((ld μ 70 21 x2).bind fun v3 => if v3 = x3 then (mod_areRuts_60 μ (mod_areRuts_12 μ k4 n) x2 x3 1) else (mod_areRuts_60 μ (mod_areRuts_12 μ k4 n) x2 x3 0)))))
theorem mod_areRuts_12_s {l : Launch} {G : Nv}   (μ : Mem) {k4 : Int → Int → Option (Int)} (hk4 : ∀ (x1 x2 : Int) , SR l G S88 mX9_areRuts (k4 x1 x2) (jI μ) 4 [some (vR 61), some (vI x1), some (vI x2), none] [] μ) : ∀ (n : Nat) (x1 x2 x3 : Int), SR l G S88 mX9_areRuts (mod_areRuts_12 μ k4 n x1 x2 x3) (jI μ) 12 [some (vR 61), some (vI x1), some (vI x2), some (vI x3)] [] μ := by
  intro n
  induction n with
  | zero => intro x1 x2 x3; exact sr_none
  | succ n ih =>
    intro x1 x2 x3
    rw [mod_areRuts_12.eq_2]
    refine sr_iload_n (i := 3) (pc' := 13) dX9_areRuts_12 rfl rfl rfl ?_
    refine sr_iconst (pc' := 14) dX9_areRuts_13 rfl (by decide) ?_
    refine sr_icmp_ge (pc' := 17) (tgt := 67) dX9_areRuts_14 rfl rfl (fun c14 => ?_) (fun c14 => ?_)
    · refine sr_iinc (lv' := [some (vR 61), some (vI x1), some (vI (wI (x2 + 1))), some (vI x3)]) (pc' := 70) dX9_areRuts_67 rfl (by decide) rfl rfl ?_
      refine sr_goto (pc' := 4) dX9_areRuts_70 rfl ?_
      refine sr_fgt (fgt_s (fgt_s (fgt_s (fgt_n fgt_nil)))) ?_
      exact hk4 x1 (wI (x2 + 1))
    · refine sr_iload_n (i := 1) (pc' := 18) dX9_areRuts_17 rfl rfl rfl ?_
      refine sr_if_eq (pc' := 21) (tgt := 59) dX9_areRuts_18 rfl rfl (fun c18 => ?_) (fun c18 => ?_)
      · refine sr_iconst (pc' := 60) dX9_areRuts_59 rfl (by decide) ?_
        refine sr_fgt (fgt_s (fgt_n (fgt_s (fgt_s fgt_nil)))) ?_
        exact mod_areRuts_60_s μ ih x2 x3 0
      · refine sr_aload_n (i := 0) (pc' := 22) dX9_areRuts_21 rfl rfl rfl ?_
        refine sr_getR (k := 13) (b := 73) (pc' := 25) cls_X9 dX9_areRuts_22 rfl s88_61 rfl (by decide) w_333 ?_
        refine sr_iconst (pc' := 26) dX9_areRuts_25 rfl (by decide) ?_
        refine sr_iload_n (i := 2) (pc' := 27) dX9_areRuts_26 rfl rfl rfl ?_
        refine sr_imul (pc' := 28) dX9_areRuts_27 rfl ?_
        refine sr_iload_n (i := 3) (pc' := 29) dX9_areRuts_28 rfl rfl rfl ?_
        refine sr_iadd (pc' := 30) dX9_areRuts_29 rfl ?_
        refine sr_zald (pc' := 31) dX9_areRuts_30 rfl s88_73 (by decide) (fun v1 hv1 hv1a hv1b => ?_)
        refine sr_if_eq (pc' := 34) (tgt := 55) dX9_areRuts_31 rfl rfl (fun c31 => ?_) (fun c31 => ?_)
        · refine sr_iconst (pc' := 56) dX9_areRuts_55 rfl (by decide) ?_
          refine sr_goto (pc' := 60) dX9_areRuts_56 rfl ?_
          refine sr_fgt (fgt_s (fgt_n (fgt_s (fgt_s fgt_nil)))) ?_
          exact mod_areRuts_60_s μ ih x2 x3 1
        · refine sr_aload_n (i := 0) (pc' := 35) dX9_areRuts_34 rfl rfl rfl ?_
          refine sr_getR (k := 10) (b := 70) (pc' := 38) cls_X9 dX9_areRuts_35 rfl s88_61 rfl (by decide) w_334 ?_
          refine sr_iload_n (i := 2) (pc' := 39) dX9_areRuts_38 rfl rfl rfl ?_
          refine sr_iald (pc' := 40) dX9_areRuts_39 rfl s88_70 (by decide) (fun v2 hv2 hv2a hv2b => ?_)
          refine sr_bipush (pc' := 42) dX9_areRuts_40 rfl (by decide) (by decide) ?_
          refine sr_icmp_eq (pc' := 45) (tgt := 55) dX9_areRuts_42 rfl rfl (fun c42 => ?_) (fun c42 => ?_)
          · refine sr_iconst (pc' := 56) dX9_areRuts_55 rfl (by decide) ?_
            refine sr_goto (pc' := 60) dX9_areRuts_56 rfl ?_
            refine sr_fgt (fgt_s (fgt_n (fgt_s (fgt_s fgt_nil)))) ?_
            exact mod_areRuts_60_s μ ih x2 x3 1
          · refine sr_aload_n (i := 0) (pc' := 46) dX9_areRuts_45 rfl rfl rfl ?_
            refine sr_getR (k := 10) (b := 70) (pc' := 49) cls_X9 dX9_areRuts_46 rfl s88_61 rfl (by decide) w_334 ?_
            refine sr_iload_n (i := 2) (pc' := 50) dX9_areRuts_49 rfl rfl rfl ?_
            refine sr_iald (pc' := 51) dX9_areRuts_50 rfl s88_70 (by decide) (fun v3 hv3 hv3a hv3b => ?_)
            refine sr_iload_n (i := 3) (pc' := 52) dX9_areRuts_51 rfl rfl rfl ?_
            refine sr_icmp_ne (pc' := 55) (tgt := 59) dX9_areRuts_52 rfl rfl (fun c52 => ?_) (fun c52 => ?_)
            · refine sr_iconst (pc' := 56) dX9_areRuts_55 rfl (by decide) ?_
              refine sr_goto (pc' := 60) dX9_areRuts_56 rfl ?_
              refine sr_fgt (fgt_s (fgt_n (fgt_s (fgt_s fgt_nil)))) ?_
              exact mod_areRuts_60_s μ ih x2 x3 1
            · refine sr_iconst (pc' := 60) dX9_areRuts_59 rfl (by decide) ?_
              refine sr_fgt (fgt_s (fgt_n (fgt_s (fgt_s fgt_nil)))) ?_
              exact mod_areRuts_60_s μ ih x2 x3 0
def mod_areRuts_4 (μ : Mem)  : Nat → Int → Int → Option (Int)
  | 0, _, _ => none
  | n + 1, x1, x2 => if 21 ≤ x2 then (some (zN x1)) else (mod_areRuts_12 μ (mod_areRuts_4 μ n) BIG x1 x2 0)
theorem mod_areRuts_4_s {l : Launch} {G : Nv}   (μ : Mem)   : ∀ (n : Nat) (x1 x2 : Int), SR l G S88 mX9_areRuts (mod_areRuts_4 μ n x1 x2) (jI μ) 4 [some (vR 61), some (vI x1), some (vI x2), none] [] μ := by
  intro n
  induction n with
  | zero => intro x1 x2; exact sr_none
  | succ n ih =>
    intro x1 x2
    rw [mod_areRuts_4.eq_2]
    refine sr_iload_n (i := 2) (pc' := 5) dX9_areRuts_4 rfl rfl rfl ?_
    refine sr_bipush (pc' := 7) dX9_areRuts_5 rfl (by decide) (by decide) ?_
    refine sr_icmp_ge (pc' := 10) (tgt := 73) dX9_areRuts_7 rfl rfl (fun c7 => ?_) (fun c7 => ?_)
    · refine sr_iload_n (i := 1) (pc' := 74) dX9_areRuts_73 rfl rfl rfl ?_
      exact sr_iretN dX9_areRuts_74 rfl rfl
    · refine sr_iconst (pc' := 11) dX9_areRuts_10 rfl (by decide) ?_
      refine sr_istore_n (i := 3) (lv' := [some (vR 61), some (vI x1), some (vI x2), some (vI 0)]) (pc' := 12) dX9_areRuts_11 rfl rfl (by decide) rfl ?_
      exact mod_areRuts_12_s μ ih BIG x1 x2 0
def mod_areRuts (μ : Mem)  : Option (Int) := mod_areRuts_4 μ BIG 1 0
theorem mod_areRuts_sp {l : Launch} {G : Nv}   (μ : Mem) : SP l G S88 mX9_areRuts [vR 61] μ (mod_areRuts μ) (jI μ) := by
  refine sp_go (lv := [some (vR 61), none, none, none]) pn_X9 (Nat.le_of_ble_eq_true rfl) rfl ?_
  unfold mod_areRuts
  refine sr_iconst (pc' := 1) dX9_areRuts_0 rfl (by decide) ?_
  refine sr_istore_n (i := 1) (lv' := [some (vR 61), some (vI 1), none, none]) (pc' := 2) dX9_areRuts_1 rfl rfl (by decide) rfl ?_
  refine sr_iconst (pc' := 3) dX9_areRuts_2 rfl (by decide) ?_
  refine sr_istore_n (i := 2) (lv' := [some (vR 61), some (vI 1), some (vI 0), none]) (pc' := 4) dX9_areRuts_3 rfl rfl (by decide) rfl ?_
  exact mod_areRuts_4_s μ BIG 1 0
def mod_in (μ : Mem)  (x0 x2 x4 : Int) : Option (Int) := if (lCmp x0 x2) < 0 then (some 0) else (if 0 < (lCmp x0 x4) then (some 0) else (some 1))
theorem mod_in_sp {l : Launch} {G : Nv} {Sh : Shp}   (x0 x2 x4 : Int) (μ : Mem) : SP l G Sh mX9_in [vL x0, vL x2, vL x4] μ (mod_in μ x0 x2 x4) (jI μ) := by
  refine sp_go (lv := [some (vL x0), none, some (vL x2), none, some (vL x4), none]) pn_X9 (Nat.le_of_ble_eq_true rfl) rfl ?_
  unfold mod_in
  refine sr_lload_n (i := 0) (pc' := 1) dX9_in_0 rfl rfl rfl ?_
  refine sr_lload_n (i := 2) (pc' := 2) dX9_in_1 rfl rfl rfl ?_
  refine sr_lcmp (pc' := 3) dX9_in_2 rfl ?_
  refine sr_if_lt (pc' := 6) (tgt := 17) dX9_in_3 rfl rfl (fun c3 => ?_) (fun c3 => ?_)
  · refine sr_iconst (pc' := 18) dX9_in_17 rfl (by decide) ?_
    exact sr_iretZ dX9_in_18 rfl (Or.inl rfl) rfl
  · refine sr_lload_n (i := 0) (pc' := 7) dX9_in_6 rfl rfl rfl ?_
    refine sr_lload (pc' := 9) dX9_in_7 rfl rfl ?_
    refine sr_lcmp (pc' := 10) dX9_in_9 rfl ?_
    refine sr_if_gt (pc' := 13) (tgt := 17) dX9_in_10 rfl rfl (fun c10 => ?_) (fun c10 => ?_)
    · refine sr_iconst (pc' := 18) dX9_in_17 rfl (by decide) ?_
      exact sr_iretZ dX9_in_18 rfl (Or.inl rfl) rfl
    · refine sr_iconst (pc' := 14) dX9_in_13 rfl (by decide) ?_
      refine sr_goto (pc' := 18) dX9_in_14 rfl ?_
      exact sr_iretZ dX9_in_18 rfl (Or.inr rfl) rfl
def mod_areSome (μ : Mem)  (x0 : Int) : Option (Int) := (mod_in μ x0 1 7).bind fun u1 => some u1
theorem mod_areSome_sp {l : Launch} {G : Nv} {Sh : Shp}   (x0 : Int) (μ : Mem) : SP l G Sh mX9_areSome [vI x0] μ (mod_areSome μ x0) (jI μ) := by
  refine sp_go (lv := [some (vI x0)]) pn_X9 (Nat.le_of_ble_eq_true rfl) rfl ?_
  unfold mod_areSome
  refine sr_iload_n (i := 0) (pc' := 1) dX9_areSome_0 rfl rfl rfl ?_
  refine sr_i2l (pc' := 2) dX9_areSome_1 rfl ?_
  refine sr_lconst (x := 1) (pc' := 3) dX9_areSome_2 rfl (by decide) rfl ?_
  refine sr_ldc2 (x := 7) (pc' := 6) dX9_areSome_3 rfl (by decide) w_335 ?_
  refine sr_callS3_I (pc' := 9) (mod_in_sp x0 1 7 μ) dX9_areSome_6 rfl mg_X9_in ms_X9_in ⟨Nat.le_of_ble_eq_true rfl, Nat.le_of_ble_eq_true rfl⟩ w_336 (Nat.le_of_ble_eq_true rfl) (fun u1 hu1 hcu1 hzu1 => ?_)
  exact sr_iretZ dX9_areSome_9 rfl (hzu1 rfl)  rfl
def mod_copies_2   : Nat → Int → Int → Int → Mem → Option (Mem)
  | 0, _, _, _, _ => none
  | n + 1, x1, x2, x3, μ => if 185 ≤ x3 then (some μ) else ((ld μ 62 555 (wI (x2 + x3))).bind fun v1 => (stx μ 62 555 (wI (x1 + x3)) v1).bind fun μ2 => mod_copies_2 n x1 x2 (wI (x3 + 1)) μ2)
theorem mod_copies_2_s {l : Launch} {G : Nv}     : ∀ (n : Nat) (x1 x2 x3 : Int) (μ : Mem), SR l G S88 mX9_copies (mod_copies_2 n x1 x2 x3 μ) jM 2 [some (vR 61), some (vI x1), some (vI x2), some (vI x3)] [] μ := by
  intro n
  induction n with
  | zero => intro x1 x2 x3 μ; exact sr_none
  | succ n ih =>
    intro x1 x2 x3 μ
    rw [mod_copies_2.eq_2]
    refine sr_iload_n (i := 3) (pc' := 3) dX9_copies_2 rfl rfl rfl ?_
    refine sr_sipush (pc' := 6) dX9_copies_3 rfl (by decide) (by decide) ?_
    refine sr_icmp_ge (pc' := 9) (tgt := 31) dX9_copies_6 rfl rfl (fun c6 => ?_) (fun c6 => ?_)
    · exact sr_ret dX9_copies_31 rfl rfl
    · refine sr_aload_n (i := 0) (pc' := 10) dX9_copies_9 rfl rfl rfl ?_
      refine sr_getR (k := 0) (b := 62) (pc' := 13) cls_X9 dX9_copies_10 rfl s88_61 rfl (by decide) w_311 ?_
      refine sr_iload_n (i := 1) (pc' := 14) dX9_copies_13 rfl rfl rfl ?_
      refine sr_iload_n (i := 3) (pc' := 15) dX9_copies_14 rfl rfl rfl ?_
      refine sr_iadd (pc' := 16) dX9_copies_15 rfl ?_
      refine sr_aload_n (i := 0) (pc' := 17) dX9_copies_16 rfl rfl rfl ?_
      refine sr_getR (k := 0) (b := 62) (pc' := 20) cls_X9 dX9_copies_17 rfl s88_61 rfl (by decide) w_311 ?_
      refine sr_iload_n (i := 2) (pc' := 21) dX9_copies_20 rfl rfl rfl ?_
      refine sr_iload_n (i := 3) (pc' := 22) dX9_copies_21 rfl rfl rfl ?_
      refine sr_iadd (pc' := 23) dX9_copies_22 rfl ?_
      refine sr_iald (pc' := 24) dX9_copies_23 rfl s88_62 (by decide) (fun v1 hv1 hv1a hv1b => ?_)
      refine sr_iast (pc' := 25) dX9_copies_24 rfl s88_62 (by decide) (fun μ2 hμ2 hμ2a hμ2b => ?_)
      refine sr_iinc (lv' := [some (vR 61), some (vI x1), some (vI x2), some (vI (wI (x3 + 1)))]) (pc' := 28) dX9_copies_25 rfl (by decide) rfl rfl ?_
      refine sr_goto (pc' := 2) dX9_copies_28 rfl ?_
      exact ih x1 x2 (wI (x3 + 1)) μ2
def mod_copies   (x1 x2 : Int) (μ : Mem) : Option (Mem) := mod_copies_2 BIG x1 x2 0 μ
theorem mod_copies_sp {l : Launch} {G : Nv}   (x1 x2 : Int) (μ : Mem) : SP l G S88 mX9_copies [vR 61, vI x1, vI x2] μ (mod_copies x1 x2 μ) jM := by
  refine sp_go (lv := [some (vR 61), some (vI x1), some (vI x2), none]) pn_X9 (Nat.le_of_ble_eq_true rfl) rfl ?_
  unfold mod_copies
  refine sr_iconst (pc' := 1) dX9_copies_0 rfl (by decide) ?_
  refine sr_istore_n (i := 3) (lv' := [some (vR 61), some (vI x1), some (vI x2), some (vI 0)]) (pc' := 2) dX9_copies_1 rfl rfl (by decide) rfl ?_
  exact mod_copies_2_s BIG x1 x2 0 μ
def mod_back   (x1 : Int) (μ : Mem) : Option (Int × Mem) := (mod_in μ x1 0 1).bind fun u1 => if u1 = 0 then (some ((-1), μ)) else ((ld μ 63 2 x1).bind fun v2 => if v2 = 0 then (some ((-2), μ)) else ((mod_copies 0 (wI (185 * (wI (x1 + 1)))) μ).bind fun μ3 => some (μ3 62 0, μ3)))
theorem mod_back_sp {l : Launch} {G : Nv}   (x1 : Int) (μ : Mem) : SP l G S88 mX9_back [vR 61, vI x1] μ (mod_back x1 μ) jIM := by
  refine sp_go (lv := [some (vR 61), some (vI x1)]) pn_X9 (Nat.le_of_ble_eq_true rfl) rfl ?_
  unfold mod_back
  refine sr_iload_n (i := 1) (pc' := 1) dX9_back_0 rfl rfl rfl ?_
  refine sr_i2l (pc' := 2) dX9_back_1 rfl ?_
  refine sr_lconst (x := 0) (pc' := 3) dX9_back_2 rfl (by decide) rfl ?_
  refine sr_lconst (x := 1) (pc' := 4) dX9_back_3 rfl (by decide) rfl ?_
  refine sr_callS3_I (pc' := 7) (mod_in_sp x1 0 1 μ) dX9_back_4 rfl mg_X9_in ms_X9_in ⟨Nat.le_of_ble_eq_true rfl, Nat.le_of_ble_eq_true rfl⟩ w_336 (Nat.le_of_ble_eq_true rfl) (fun u1 hu1 hcu1 hzu1 => ?_)
  refine sr_if_ne (pc' := 10) (tgt := 12) dX9_back_7 rfl rfl (fun c7 => ?_) (fun c7 => ?_)
  · refine sr_iconst (pc' := 11) dX9_back_10 rfl (by decide) ?_
    exact sr_iretI dX9_back_11 rfl rfl
  · refine sr_aload_n (i := 0) (pc' := 13) dX9_back_12 rfl rfl rfl ?_
    refine sr_getR (k := 1) (b := 63) (pc' := 16) cls_X9 dX9_back_13 rfl s88_61 rfl (by decide) w_337 ?_
    refine sr_iload_n (i := 1) (pc' := 17) dX9_back_16 rfl rfl rfl ?_
    refine sr_zald (pc' := 18) dX9_back_17 rfl s88_63 (by decide) (fun v2 hv2 hv2a hv2b => ?_)
    refine sr_if_ne (pc' := 21) (tgt := 24) dX9_back_18 rfl rfl (fun c18 => ?_) (fun c18 => ?_)
    · refine sr_bipush (pc' := 23) dX9_back_21 rfl (by decide) (by decide) ?_
      exact sr_iretI dX9_back_23 rfl rfl
    · refine sr_aload_n (i := 0) (pc' := 25) dX9_back_24 rfl rfl rfl ?_
      refine sr_iconst (pc' := 26) dX9_back_25 rfl (by decide) ?_
      refine sr_sipush (pc' := 29) dX9_back_26 rfl (by decide) (by decide) ?_
      refine sr_iload_n (i := 1) (pc' := 30) dX9_back_29 rfl rfl rfl ?_
      refine sr_iconst (pc' := 31) dX9_back_30 rfl (by decide) ?_
      refine sr_iadd (pc' := 32) dX9_back_31 rfl ?_
      refine sr_imul (pc' := 33) dX9_back_32 rfl ?_
      refine sr_callV2_M (pc' := 36) (mod_copies_sp 0 (wI (185 * (wI (x1 + 1)))) μ) dX9_back_33 rfl mg_X9_copies mi_X9_copies (Or.inl ⟨9, _, TX9, 40, s88_61, rfl⟩) ⟨Nat.le_of_ble_eq_true rfl, Nat.le_of_ble_eq_true rfl⟩ w_338 (Nat.le_of_ble_eq_true rfl) (fun μ3 hμ3 => ?_)
      refine sr_aload_n (i := 0) (pc' := 37) dX9_back_36 rfl rfl rfl ?_
      refine sr_getR (k := 0) (b := 62) (pc' := 40) cls_X9 dX9_back_37 rfl s88_61 rfl (by decide) w_311 ?_
      refine sr_iconst (pc' := 41) dX9_back_40 rfl (by decide) ?_
      refine sr_ialdc (j := 0) (pc' := 42) dX9_back_41 rfl s88_62 (by decide) (by decide) (by decide) rfl ?_
      exact sr_iretI dX9_back_42 rfl rfl
def mod_byNumbers_2   : Nat → Int → Mem → Option (Mem)
  | 0, _, _ => none
  | n + 1, x1, μ => if 5 ≤ x1 then (some μ) else ((stx μ 80 5 x1 x1).bind fun μ1 => mod_byNumbers_2 n (wI (x1 + 1)) μ1)
theorem mod_byNumbers_2_s {l : Launch} {G : Nv}     : ∀ (n : Nat) (x1 : Int) (μ : Mem), SR l G S88 mX9_byNumbers (mod_byNumbers_2 n x1 μ) jM 2 [some (vR 61), some (vI x1)] [] μ := by
  intro n
  induction n with
  | zero => intro x1 μ; exact sr_none
  | succ n ih =>
    intro x1 μ
    rw [mod_byNumbers_2.eq_2]
    refine sr_iload_n (i := 1) (pc' := 3) dX9_byNumbers_2 rfl rfl rfl ?_
    refine sr_iconst (pc' := 4) dX9_byNumbers_3 rfl (by decide) ?_
    refine sr_icmp_ge (pc' := 7) (tgt := 20) dX9_byNumbers_4 rfl rfl (fun c4 => ?_) (fun c4 => ?_)
    · exact sr_ret dX9_byNumbers_20 rfl rfl
    · refine sr_aload_n (i := 0) (pc' := 8) dX9_byNumbers_7 rfl rfl rfl ?_
      refine sr_getR (k := 30) (b := 80) (pc' := 11) cls_X9 dX9_byNumbers_8 rfl s88_61 rfl (by decide) w_324 ?_
      refine sr_iload_n (i := 1) (pc' := 12) dX9_byNumbers_11 rfl rfl rfl ?_
      refine sr_iload_n (i := 1) (pc' := 13) dX9_byNumbers_12 rfl rfl rfl ?_
      refine sr_iast (pc' := 14) dX9_byNumbers_13 rfl s88_80 (by decide) (fun μ1 hμ1 hμ1a hμ1b => ?_)
      refine sr_iinc (lv' := [some (vR 61), some (vI (wI (x1 + 1)))]) (pc' := 17) dX9_byNumbers_14 rfl (by decide) rfl rfl ?_
      refine sr_goto (pc' := 2) dX9_byNumbers_17 rfl ?_
      exact ih (wI (x1 + 1)) μ1
def mod_byNumbers   (μ : Mem) : Option (Mem) := mod_byNumbers_2 BIG 0 μ
theorem mod_byNumbers_sp {l : Launch} {G : Nv}   (μ : Mem) : SP l G S88 mX9_byNumbers [vR 61] μ (mod_byNumbers μ) jM := by
  refine sp_go (lv := [some (vR 61), none]) pn_X9 (Nat.le_of_ble_eq_true rfl) rfl ?_
  unfold mod_byNumbers
  refine sr_iconst (pc' := 1) dX9_byNumbers_0 rfl (by decide) ?_
  refine sr_istore_n (i := 1) (lv' := [some (vR 61), some (vI 0)]) (pc' := 2) dX9_byNumbers_1 rfl rfl (by decide) rfl ?_
  exact mod_byNumbers_2_s BIG 0 μ
def mod_isCart (μ : Mem)  (x1 : Int) : Option (Int) := (mod_in μ x1 0 (wI ((μ 62 0) - 1))).bind fun u1 => some u1
theorem mod_isCart_sp {l : Launch} {G : Nv}   (x1 : Int) (μ : Mem) : SP l G S88 mX9_isCart [vR 61, vI x1] μ (mod_isCart μ x1) (jI μ) := by
  refine sp_go (lv := [some (vR 61), some (vI x1)]) pn_X9 (Nat.le_of_ble_eq_true rfl) rfl ?_
  unfold mod_isCart
  refine sr_iload_n (i := 1) (pc' := 1) dX9_isCart_0 rfl rfl rfl ?_
  refine sr_i2l (pc' := 2) dX9_isCart_1 rfl ?_
  refine sr_lconst (x := 0) (pc' := 3) dX9_isCart_2 rfl (by decide) rfl ?_
  refine sr_aload_n (i := 0) (pc' := 4) dX9_isCart_3 rfl rfl rfl ?_
  refine sr_getR (k := 0) (b := 62) (pc' := 7) cls_X9 dX9_isCart_4 rfl s88_61 rfl (by decide) w_311 ?_
  refine sr_iconst (pc' := 8) dX9_isCart_7 rfl (by decide) ?_
  refine sr_ialdc (j := 0) (pc' := 9) dX9_isCart_8 rfl s88_62 (by decide) (by decide) (by decide) rfl ?_
  refine sr_iconst (pc' := 10) dX9_isCart_9 rfl (by decide) ?_
  refine sr_isub (pc' := 11) dX9_isCart_10 rfl ?_
  refine sr_i2l (pc' := 12) dX9_isCart_11 rfl ?_
  refine sr_callS3_I (pc' := 15) (mod_in_sp x1 0 (wI ((μ 62 0) - 1)) μ) dX9_isCart_12 rfl mg_X9_in ms_X9_in ⟨Nat.le_of_ble_eq_true rfl, Nat.le_of_ble_eq_true rfl⟩ w_336 (Nat.le_of_ble_eq_true rfl) (fun u1 hu1 hcu1 hzu1 => ?_)
  exact sr_iretZ dX9_isCart_15 rfl (hzu1 rfl)  rfl
def mod_isYard (μ : Mem)  (x1 : Int) : Option (Int) := (mod_in μ x1 0 (μ 61 2)).bind fun u1 => some u1
theorem mod_isYard_sp {l : Launch} {G : Nv}   (x1 : Int) (μ : Mem) : SP l G S88 mX9_isYard [vR 61, vI x1] μ (mod_isYard μ x1) (jI μ) := by
  refine sp_go (lv := [some (vR 61), some (vI x1)]) pn_X9 (Nat.le_of_ble_eq_true rfl) rfl ?_
  unfold mod_isYard
  refine sr_iload_n (i := 1) (pc' := 1) dX9_isYard_0 rfl rfl rfl ?_
  refine sr_i2l (pc' := 2) dX9_isYard_1 rfl ?_
  refine sr_lconst (x := 0) (pc' := 3) dX9_isYard_2 rfl (by decide) rfl ?_
  refine sr_aload_n (i := 0) (pc' := 4) dX9_isYard_3 rfl rfl rfl ?_
  refine sr_getI (k := 2) (pc' := 7) cls_X9 dX9_isYard_4 rfl s88_61 rfl (by decide) w_339 ?_
  refine sr_i2l (pc' := 8) dX9_isYard_7 rfl ?_
  refine sr_callS3_I (pc' := 11) (mod_in_sp x1 0 (μ 61 2) μ) dX9_isYard_8 rfl mg_X9_in ms_X9_in ⟨Nat.le_of_ble_eq_true rfl, Nat.le_of_ble_eq_true rfl⟩ w_336 (Nat.le_of_ble_eq_true rfl) (fun u1 hu1 hcu1 hzu1 => ?_)
  exact sr_iretZ dX9_isYard_11 rfl (hzu1 rfl)  rfl
def mod_then_50 (μ : Mem)  (x3 x4 s0 : Int) : Option (Int) := if s0 = 0 then (some (-4)) else (some (wI ((wI ((wI (3 * x4)) + x3)) - 2)))
theorem mod_then_50_s {l : Launch} {G : Nv}   (μ : Mem)   : ∀ (x3 x4 s0 : Int), SR l G S88 mX9_then (mod_then_50 μ x3 x4 s0) (jI μ) 50 [none, none, none, some (vI x3), some (vI x4), none, none, none] [vI s0] μ := by
  intro x3 x4 s0
  unfold mod_then_50
  refine sr_istore (lv' := [none, none, none, some (vI x3), some (vI x4), none, some (vI s0), none]) (pc' := 52) dX9_then_50 rfl (by decide) rfl ?_
  refine sr_iload (pc' := 54) dX9_then_52 rfl rfl ?_
  refine sr_if_eq (pc' := 57) (tgt := 68) dX9_then_54 rfl rfl (fun c54 => ?_) (fun c54 => ?_)
  · refine sr_bipush (pc' := 70) dX9_then_68 rfl (by decide) (by decide) ?_
    exact sr_iretI dX9_then_70 rfl rfl
  · refine sr_iconst (pc' := 58) dX9_then_57 rfl (by decide) ?_
    refine sr_iload (pc' := 60) dX9_then_58 rfl rfl ?_
    refine sr_imul (pc' := 61) dX9_then_60 rfl ?_
    refine sr_iload_n (i := 3) (pc' := 62) dX9_then_61 rfl rfl rfl ?_
    refine sr_iadd (pc' := 63) dX9_then_62 rfl ?_
    refine sr_iconst (pc' := 64) dX9_then_63 rfl (by decide) ?_
    refine sr_isub (pc' := 65) dX9_then_64 rfl ?_
    refine sr_goto (pc' := 70) dX9_then_65 rfl ?_
    exact sr_iretI dX9_then_70 rfl rfl
def mod_then_150 (μ : Mem)  (x5 x6 s0 : Int) : Option (Int) := if s0 = 0 then (some (-4)) else (some (wI ((wI (3 * x6)) + x5)))
theorem mod_then_150_s {l : Launch} {G : Nv}   (μ : Mem)   : ∀ (x5 x6 s0 : Int), SR l G S88 mX9_then (mod_then_150 μ x5 x6 s0) (jI μ) 150 [none, none, none, none, none, some (vI x5), some (vI x6), none] [vI s0] μ := by
  intro x5 x6 s0
  unfold mod_then_150
  refine sr_istore (lv' := [none, none, none, none, none, some (vI x5), some (vI x6), some (vI s0)]) (pc' := 152) dX9_then_150 rfl (by decide) rfl ?_
  refine sr_iload (pc' := 154) dX9_then_152 rfl rfl ?_
  refine sr_if_eq (pc' := 157) (tgt := 167) dX9_then_154 rfl rfl (fun c154 => ?_) (fun c154 => ?_)
  · refine sr_bipush (pc' := 169) dX9_then_167 rfl (by decide) (by decide) ?_
    exact sr_iretI dX9_then_169 rfl rfl
  · refine sr_iconst (pc' := 158) dX9_then_157 rfl (by decide) ?_
    refine sr_iload (pc' := 160) dX9_then_158 rfl rfl ?_
    refine sr_imul (pc' := 161) dX9_then_160 rfl ?_
    refine sr_iload (pc' := 163) dX9_then_161 rfl rfl ?_
    refine sr_iadd (pc' := 164) dX9_then_163 rfl ?_
    refine sr_goto (pc' := 169) dX9_then_164 rfl ?_
    exact sr_iretI dX9_then_169 rfl rfl
def mod_then_86 (μ : Mem)  (x1 x5 s0 : Int) : Option (Int) := (mod_isYard μ s0).bind fun u1 => if u1 = 0 then (some (-4)) else ((mod_of μ x1 0).bind fun u2 => if u2 = 2 then (mod_then_150 μ x5 s0 1) else ((mod_hasRut μ s0 x5).bind fun u3 => if u3 = 0 then (mod_then_150 μ x5 s0 0) else ((ld μ 62 555 (wI ((wI (36 + (wI (3 * s0)))) + x5))).bind fun v4 => (mod_of μ x1 3).bind fun u5 => if u5 < v4 then (mod_then_150 μ x5 s0 0) else (mod_then_150 μ x5 s0 1))))
theorem mod_then_86_s {l : Launch} {G : Nv}   (μ : Mem)   : ∀ (x1 x5 s0 : Int), SR l G S88 mX9_then (mod_then_86 μ x1 x5 s0) (jI μ) 86 [some (vR 61), some (vI x1), none, none, none, some (vI x5), none, none] [vI s0] μ := by
  intro x1 x5 s0
  unfold mod_then_86
  refine sr_istore (lv' := [some (vR 61), some (vI x1), none, none, none, some (vI x5), some (vI s0), none]) (pc' := 88) dX9_then_86 rfl (by decide) rfl ?_
  refine sr_aload_n (i := 0) (pc' := 89) dX9_then_88 rfl rfl rfl ?_
  refine sr_iload (pc' := 91) dX9_then_89 rfl rfl ?_
  refine sr_callV1_I (pc' := 94) (mod_isYard_sp s0 μ) dX9_then_91 rfl mg_X9_isYard mi_X9_isYard (Or.inl ⟨9, _, TX9, 40, s88_61, rfl⟩) ⟨Nat.le_of_ble_eq_true rfl, Nat.le_of_ble_eq_true rfl⟩ w_340 (Nat.le_of_ble_eq_true rfl) (fun u1 hu1 hcu1 hzu1 => ?_)
  refine sr_if_ne (pc' := 97) (tgt := 100) dX9_then_94 rfl rfl (fun c94 => ?_) (fun c94 => ?_)
  · refine sr_bipush (pc' := 99) dX9_then_97 rfl (by decide) (by decide) ?_
    exact sr_iretI dX9_then_99 rfl rfl
  · refine sr_aload_n (i := 0) (pc' := 101) dX9_then_100 rfl rfl rfl ?_
    refine sr_iload_n (i := 1) (pc' := 102) dX9_then_101 rfl rfl rfl ?_
    refine sr_iconst (pc' := 103) dX9_then_102 rfl (by decide) ?_
    refine sr_callV2_I (pc' := 106) (mod_of_sp x1 0 μ) dX9_then_103 rfl mg_X9_of mi_X9_of (Or.inl ⟨9, _, TX9, 40, s88_61, rfl⟩) ⟨Nat.le_of_ble_eq_true rfl, Nat.le_of_ble_eq_true rfl⟩ w_314 (Nat.le_of_ble_eq_true rfl) (fun u2 hu2 hcu2 hzu2 => ?_)
    refine sr_iconst (pc' := 107) dX9_then_106 rfl (by decide) ?_
    refine sr_icmp_eq (pc' := 110) (tgt := 145) dX9_then_107 rfl rfl (fun c107 => ?_) (fun c107 => ?_)
    · refine sr_iconst (pc' := 146) dX9_then_145 rfl (by decide) ?_
      refine sr_goto (pc' := 150) dX9_then_146 rfl ?_
      refine sr_fgt (fgt_n (fgt_n (fgt_s (fgt_s (fgt_s (fgt_s (fgt_s (fgt_s fgt_nil)))))))) ?_
      exact mod_then_150_s μ x5 s0 1
    · refine sr_aload_n (i := 0) (pc' := 111) dX9_then_110 rfl rfl rfl ?_
      refine sr_iload (pc' := 113) dX9_then_111 rfl rfl ?_
      refine sr_iload (pc' := 115) dX9_then_113 rfl rfl ?_
      refine sr_callV2_I (pc' := 118) (mod_hasRut_sp s0 x5 μ) dX9_then_115 rfl mg_X9_hasRut mi_X9_hasRut (Or.inl ⟨9, _, TX9, 40, s88_61, rfl⟩) ⟨Nat.le_of_ble_eq_true rfl, Nat.le_of_ble_eq_true rfl⟩ w_323 (Nat.le_of_ble_eq_true rfl) (fun u3 hu3 hcu3 hzu3 => ?_)
      refine sr_if_eq (pc' := 121) (tgt := 149) dX9_then_118 rfl rfl (fun c118 => ?_) (fun c118 => ?_)
      · refine sr_iconst (pc' := 150) dX9_then_149 rfl (by decide) ?_
        refine sr_fgt (fgt_n (fgt_n (fgt_s (fgt_s (fgt_s (fgt_s (fgt_s (fgt_s fgt_nil)))))))) ?_
        exact mod_then_150_s μ x5 s0 0
      · refine sr_aload_n (i := 0) (pc' := 122) dX9_then_121 rfl rfl rfl ?_
        refine sr_getR (k := 0) (b := 62) (pc' := 125) cls_X9 dX9_then_122 rfl s88_61 rfl (by decide) w_311 ?_
        refine sr_bipush (pc' := 127) dX9_then_125 rfl (by decide) (by decide) ?_
        refine sr_iconst (pc' := 128) dX9_then_127 rfl (by decide) ?_
        refine sr_iload (pc' := 130) dX9_then_128 rfl rfl ?_
        refine sr_imul (pc' := 131) dX9_then_130 rfl ?_
        refine sr_iadd (pc' := 132) dX9_then_131 rfl ?_
        refine sr_iload (pc' := 134) dX9_then_132 rfl rfl ?_
        refine sr_iadd (pc' := 135) dX9_then_134 rfl ?_
        refine sr_iald (pc' := 136) dX9_then_135 rfl s88_62 (by decide) (fun v4 hv4 hv4a hv4b => ?_)
        refine sr_aload_n (i := 0) (pc' := 137) dX9_then_136 rfl rfl rfl ?_
        refine sr_iload_n (i := 1) (pc' := 138) dX9_then_137 rfl rfl rfl ?_
        refine sr_iconst (pc' := 139) dX9_then_138 rfl (by decide) ?_
        refine sr_callV2_I (pc' := 142) (mod_of_sp x1 3 μ) dX9_then_139 rfl mg_X9_of mi_X9_of (Or.inl ⟨9, _, TX9, 40, s88_61, rfl⟩) ⟨Nat.le_of_ble_eq_true rfl, Nat.le_of_ble_eq_true rfl⟩ w_314 (Nat.le_of_ble_eq_true rfl) (fun u5 hu5 hcu5 hzu5 => ?_)
        refine sr_icmp_gt (pc' := 145) (tgt := 149) dX9_then_142 rfl rfl (fun c142 => ?_) (fun c142 => ?_)
        · refine sr_iconst (pc' := 150) dX9_then_149 rfl (by decide) ?_
          refine sr_fgt (fgt_n (fgt_n (fgt_s (fgt_s (fgt_s (fgt_s (fgt_s (fgt_s fgt_nil)))))))) ?_
          exact mod_then_150_s μ x5 s0 0
        · refine sr_iconst (pc' := 146) dX9_then_145 rfl (by decide) ?_
          refine sr_goto (pc' := 150) dX9_then_146 rfl ?_
          refine sr_fgt (fgt_n (fgt_n (fgt_s (fgt_s (fgt_s (fgt_s (fgt_s (fgt_s fgt_nil)))))))) ?_
          exact mod_then_150_s μ x5 s0 1
def mod_then (μ : Mem)  (x1 x2 x3 : Int) : Option (Int) := bnd (iDiv x2 3) fun v1 => bnd (iRem x2 3) fun v2 => if x3 ≤ 1 then (if x3 = 0 then (mod_then_86 μ x1 v2 (wI (v1 + 1))) else (mod_then_86 μ x1 v2 (wI (v1 - 1)))) else ((ld μ 66 21 v1).bind fun v3 => if v3 = (-4) then (mod_then_50 μ x3 v1 0) else (if (wI (x3 - 2)) = v2 then (mod_then_50 μ x3 v1 0) else ((mod_of μ x1 0).bind fun u4 => if u4 = 3 then (mod_then_50 μ x3 v1 0) else (mod_then_50 μ x3 v1 1))))
theorem mod_then_sp {l : Launch} {G : Nv}   (x1 x2 x3 : Int) (μ : Mem) : SP l G S88 mX9_then [vR 61, vI x1, vI x2, vI x3] μ (mod_then μ x1 x2 x3) (jI μ) := by
  refine sp_go (lv := [some (vR 61), some (vI x1), some (vI x2), some (vI x3), none, none, none, none]) pn_X9 (Nat.le_of_ble_eq_true rfl) rfl ?_
  unfold mod_then
  refine sr_iload_n (i := 2) (pc' := 1) dX9_then_0 rfl rfl rfl ?_
  refine sr_iconst (pc' := 2) dX9_then_1 rfl (by decide) ?_
  refine sr_idiv (pc' := 3) dX9_then_2 rfl (by decide) ?_
  refine sr_bnd (fun v1 hv1 => ?_)
  refine sr_istore (lv' := [some (vR 61), some (vI x1), some (vI x2), some (vI x3), some (vI v1), none, none, none]) (pc' := 5) dX9_then_3 rfl (by decide) rfl ?_
  refine sr_iload_n (i := 2) (pc' := 6) dX9_then_5 rfl rfl rfl ?_
  refine sr_iconst (pc' := 7) dX9_then_6 rfl (by decide) ?_
  refine sr_irem (pc' := 8) dX9_then_7 rfl (by decide) ?_
  refine sr_bnd (fun v2 hv2 => ?_)
  refine sr_istore (lv' := [some (vR 61), some (vI x1), some (vI x2), some (vI x3), some (vI v1), some (vI v2), none, none]) (pc' := 10) dX9_then_8 rfl (by decide) rfl ?_
  refine sr_iload_n (i := 3) (pc' := 11) dX9_then_10 rfl rfl rfl ?_
  refine sr_iconst (pc' := 12) dX9_then_11 rfl (by decide) ?_
  refine sr_icmp_le (pc' := 15) (tgt := 71) dX9_then_12 rfl rfl (fun c12 => ?_) (fun c12 => ?_)
  · refine sr_iload_n (i := 3) (pc' := 72) dX9_then_71 rfl rfl rfl ?_
    refine sr_if_ne (pc' := 75) (tgt := 82) dX9_then_72 rfl rfl (fun c72 => ?_) (fun c72 => ?_)
    · refine sr_iload (pc' := 77) dX9_then_75 rfl rfl ?_
      refine sr_iconst (pc' := 78) dX9_then_77 rfl (by decide) ?_
      refine sr_iadd (pc' := 79) dX9_then_78 rfl ?_
      refine sr_goto (pc' := 86) dX9_then_79 rfl ?_
      refine sr_fgt (fgt_s (fgt_s (fgt_n (fgt_n (fgt_n (fgt_s (fgt_s (fgt_s fgt_nil)))))))) ?_
      exact mod_then_86_s μ x1 v2 (wI (v1 + 1))
    · refine sr_iload (pc' := 84) dX9_then_82 rfl rfl ?_
      refine sr_iconst (pc' := 85) dX9_then_84 rfl (by decide) ?_
      refine sr_isub (pc' := 86) dX9_then_85 rfl ?_
      refine sr_fgt (fgt_s (fgt_s (fgt_n (fgt_n (fgt_n (fgt_s (fgt_s (fgt_s fgt_nil)))))))) ?_
      exact mod_then_86_s μ x1 v2 (wI (v1 - 1))
  · refine sr_aload_n (i := 0) (pc' := 16) dX9_then_15 rfl rfl rfl ?_
    refine sr_getR (k := 5) (b := 66) (pc' := 19) cls_X9 dX9_then_16 rfl s88_61 rfl (by decide) w_341 ?_
    refine sr_iload (pc' := 21) dX9_then_19 rfl rfl ?_
    refine sr_iald (pc' := 22) dX9_then_21 rfl s88_66 (by decide) (fun v3 hv3 hv3a hv3b => ?_)
    refine sr_bipush (pc' := 24) dX9_then_22 rfl (by decide) (by decide) ?_
    refine sr_icmp_eq (pc' := 27) (tgt := 49) dX9_then_24 rfl rfl (fun c24 => ?_) (fun c24 => ?_)
    · refine sr_iconst (pc' := 50) dX9_then_49 rfl (by decide) ?_
      refine sr_fgt (fgt_n (fgt_n (fgt_n (fgt_s (fgt_s (fgt_n (fgt_s (fgt_s fgt_nil)))))))) ?_
      exact mod_then_50_s μ x3 v1 0
    · refine sr_iload_n (i := 3) (pc' := 28) dX9_then_27 rfl rfl rfl ?_
      refine sr_iconst (pc' := 29) dX9_then_28 rfl (by decide) ?_
      refine sr_isub (pc' := 30) dX9_then_29 rfl ?_
      refine sr_iload (pc' := 32) dX9_then_30 rfl rfl ?_
      refine sr_icmp_eq (pc' := 35) (tgt := 49) dX9_then_32 rfl rfl (fun c32 => ?_) (fun c32 => ?_)
      · refine sr_iconst (pc' := 50) dX9_then_49 rfl (by decide) ?_
        refine sr_fgt (fgt_n (fgt_n (fgt_n (fgt_s (fgt_s (fgt_n (fgt_s (fgt_s fgt_nil)))))))) ?_
        exact mod_then_50_s μ x3 v1 0
      · refine sr_aload_n (i := 0) (pc' := 36) dX9_then_35 rfl rfl rfl ?_
        refine sr_iload_n (i := 1) (pc' := 37) dX9_then_36 rfl rfl rfl ?_
        refine sr_iconst (pc' := 38) dX9_then_37 rfl (by decide) ?_
        refine sr_callV2_I (pc' := 41) (mod_of_sp x1 0 μ) dX9_then_38 rfl mg_X9_of mi_X9_of (Or.inl ⟨9, _, TX9, 40, s88_61, rfl⟩) ⟨Nat.le_of_ble_eq_true rfl, Nat.le_of_ble_eq_true rfl⟩ w_314 (Nat.le_of_ble_eq_true rfl) (fun u4 hu4 hcu4 hzu4 => ?_)
        refine sr_iconst (pc' := 42) dX9_then_41 rfl (by decide) ?_
        refine sr_icmp_eq (pc' := 45) (tgt := 49) dX9_then_42 rfl rfl (fun c42 => ?_) (fun c42 => ?_)
        · refine sr_iconst (pc' := 50) dX9_then_49 rfl (by decide) ?_
          refine sr_fgt (fgt_n (fgt_n (fgt_n (fgt_s (fgt_s (fgt_n (fgt_s (fgt_s fgt_nil)))))))) ?_
          exact mod_then_50_s μ x3 v1 0
        · refine sr_iconst (pc' := 46) dX9_then_45 rfl (by decide) ?_
          refine sr_goto (pc' := 50) dX9_then_46 rfl ?_
          refine sr_fgt (fgt_n (fgt_n (fgt_n (fgt_s (fgt_s (fgt_n (fgt_s (fgt_s fgt_nil)))))))) ?_
          exact mod_then_50_s μ x3 v1 1
def mod_flag (μ : Mem)  (x0 : Int) : Option (Int) := if x0 = 0 then (some 0) else (some 1)
theorem mod_flag_sp {l : Launch} {G : Nv} {Sh : Shp}   (x0 : Int) (μ : Mem) : SP l G Sh mX9_flag [vI x0] μ (mod_flag μ x0) (jI μ) := by
  refine sp_go (lv := [some (vI x0)]) pn_X9 (Nat.le_of_ble_eq_true rfl) rfl ?_
  unfold mod_flag
  refine sr_iload_n (i := 0) (pc' := 1) dX9_flag_0 rfl rfl rfl ?_
  refine sr_if_eq (pc' := 4) (tgt := 8) dX9_flag_1 rfl rfl (fun c1 => ?_) (fun c1 => ?_)
  · refine sr_iconst (pc' := 9) dX9_flag_8 rfl (by decide) ?_
    exact sr_iretI dX9_flag_9 rfl rfl
  · refine sr_iconst (pc' := 5) dX9_flag_4 rfl (by decide) ?_
    refine sr_goto (pc' := 9) dX9_flag_5 rfl ?_
    exact sr_iretI dX9_flag_9 rfl rfl
def mod_can_47  (k12 : Int → Int → Mem → Option (Int × Mem)) (x1 x2 s1 s2 : Int) (μ : Mem) : Option (Int × Mem) := (stx μ 84 63 s1 (zN s2)).bind fun μ1 => k12 x1 (wI (x2 + 1)) μ1
theorem mod_can_47_s {l : Launch} {G : Nv}   {k12 : Int → Int → Mem → Option (Int × Mem)} (hk12 : ∀ (x1 x2 : Int) (μ : Mem) , SR l G S88 mX9_can (k12 x1 x2 μ) jIM 12 [some (vR 61), some (vI x1), some (vI x2), none, none, none] [] μ) : ∀ (x1 x2 s1 s2 : Int) (μ : Mem), SR l G S88 mX9_can (mod_can_47 k12 x1 x2 s1 s2 μ) jIM 47 [some (vR 61), some (vI x1), some (vI x2), none, none, none] [vI s2, vI s1, vR 84] μ := by
  intro x1 x2 s1 s2 μ
  unfold mod_can_47
  refine sr_zast (pc' := 48) dX9_can_47 rfl s88_84 (by decide) (fun μ1 hμ1 hμ1a hμ1b => ?_)
  refine sr_iinc (lv' := [some (vR 61), some (vI x1), some (vI (wI (x2 + 1))), none, none, none]) (pc' := 51) dX9_can_48 rfl (by decide) rfl rfl ?_
  refine sr_goto (pc' := 12) dX9_can_51 rfl ?_
  exact hk12 x1 (wI (x2 + 1)) μ1
def mod_can_131  (k79 : Int → Int → Int → Int → Mem → Option (Int × Mem)) (x1 x2 x3 x4 : Int) (μ : Mem) : Option (Int × Mem) := k79 x1 x2 x3 (wI (x4 + 1)) μ
theorem mod_can_131_s {l : Launch} {G : Nv}   {k79 : Int → Int → Int → Int → Mem → Option (Int × Mem)} (hk79 : ∀ (x1 x2 x3 x4 : Int) (μ : Mem) , SR l G S88 mX9_can (k79 x1 x2 x3 x4 μ) jIM 79 [some (vR 61), some (vI x1), some (vI x2), some (vI x3), some (vI x4), none] [] μ) : ∀ (x1 x2 x3 x4 : Int) (μ : Mem), SR l G S88 mX9_can (mod_can_131 k79 x1 x2 x3 x4 μ) jIM 131 [some (vR 61), some (vI x1), some (vI x2), some (vI x3), some (vI x4), none] [] μ := by
  intro x1 x2 x3 x4 μ
  unfold mod_can_131
  refine sr_iinc (lv' := [some (vR 61), some (vI x1), some (vI x2), some (vI x3), some (vI (wI (x4 + 1))), none]) (pc' := 134) dX9_can_131 rfl (by decide) rfl rfl ?_
  refine sr_goto (pc' := 79) dX9_can_134 rfl ?_
  exact hk79 x1 x2 x3 (wI (x4 + 1)) μ
def mod_can_137  (k64 : Int → Int → Int → Mem → Option (Int × Mem)) (x1 x2 x3 : Int) (μ : Mem) : Option (Int × Mem) := k64 x1 x2 (wI (x3 + 1)) μ
theorem mod_can_137_s {l : Launch} {G : Nv}   {k64 : Int → Int → Int → Mem → Option (Int × Mem)} (hk64 : ∀ (x1 x2 x3 : Int) (μ : Mem) , SR l G S88 mX9_can (k64 x1 x2 x3 μ) jIM 64 [some (vR 61), some (vI x1), some (vI x2), some (vI x3), none, none] [] μ) : ∀ (x1 x2 x3 : Int) (μ : Mem), SR l G S88 mX9_can (mod_can_137 k64 x1 x2 x3 μ) jIM 137 [some (vR 61), some (vI x1), some (vI x2), some (vI x3), none, none] [] μ := by
  intro x1 x2 x3 μ
  unfold mod_can_137
  refine sr_iinc (lv' := [some (vR 61), some (vI x1), some (vI x2), some (vI (wI (x3 + 1))), none, none]) (pc' := 140) dX9_can_137 rfl (by decide) rfl rfl ?_
  refine sr_goto (pc' := 64) dX9_can_140 rfl ?_
  exact hk64 x1 x2 (wI (x3 + 1)) μ
def mod_can_79  (k64 : Int → Int → Int → Mem → Option (Int × Mem)) : Nat → Int → Int → Int → Int → Mem → Option (Int × Mem)
  | 0, _, _, _, _, _ => none
  | n + 1, x1, x2, x3, x4, μ => if 5 ≤ x4 then (mod_can_137 k64 x1 x2 x3 μ) else ((ld μ 84 63 x3).bind fun v1 => if v1 = 0 then (mod_can_137 k64 x1 x2 x3 μ) else ((mod_then μ x1 x3 x4).bind fun u2 => if u2 = (-4) then (mod_can_131 (mod_can_79 k64 n) x1 x2 x3 x4 μ) else ((ld μ 84 63 u2).bind fun v3 => if v3 = 0 then ((stx μ 84 63 u2 (zN 1)).bind fun μ4 => mod_can_131 (mod_can_79 k64 n) x1 1 x3 x4 μ4) else (mod_can_131 (mod_can_79 k64 n) x1 x2 x3 x4 μ))))
theorem mod_can_79_s {l : Launch} {G : Nv}   {k64 : Int → Int → Int → Mem → Option (Int × Mem)} (hk64 : ∀ (x1 x2 x3 : Int) (μ : Mem) , SR l G S88 mX9_can (k64 x1 x2 x3 μ) jIM 64 [some (vR 61), some (vI x1), some (vI x2), some (vI x3), none, none] [] μ) : ∀ (n : Nat) (x1 x2 x3 x4 : Int) (μ : Mem), SR l G S88 mX9_can (mod_can_79 k64 n x1 x2 x3 x4 μ) jIM 79 [some (vR 61), some (vI x1), some (vI x2), some (vI x3), some (vI x4), none] [] μ := by
  intro n
  induction n with
  | zero => intro x1 x2 x3 x4 μ; exact sr_none
  | succ n ih =>
    intro x1 x2 x3 x4 μ
    rw [mod_can_79.eq_2]
    refine sr_iload (pc' := 81) dX9_can_79 rfl rfl ?_
    refine sr_iconst (pc' := 82) dX9_can_81 rfl (by decide) ?_
    refine sr_icmp_ge (pc' := 85) (tgt := 137) dX9_can_82 rfl rfl (fun c82 => ?_) (fun c82 => ?_)
    · refine sr_fgt (fgt_s (fgt_s (fgt_s (fgt_s (fgt_n (fgt_s fgt_nil)))))) ?_
      exact mod_can_137_s hk64 x1 x2 x3 μ
    · refine sr_aload_n (i := 0) (pc' := 86) dX9_can_85 rfl rfl rfl ?_
      refine sr_getR (k := 35) (b := 84) (pc' := 89) cls_X9 dX9_can_86 rfl s88_61 rfl (by decide) w_342 ?_
      refine sr_iload_n (i := 3) (pc' := 90) dX9_can_89 rfl rfl rfl ?_
      refine sr_zald (pc' := 91) dX9_can_90 rfl s88_84 (by decide) (fun v1 hv1 hv1a hv1b => ?_)
      refine sr_if_eq (pc' := 94) (tgt := 137) dX9_can_91 rfl rfl (fun c91 => ?_) (fun c91 => ?_)
      · refine sr_fgt (fgt_s (fgt_s (fgt_s (fgt_s (fgt_n (fgt_s fgt_nil)))))) ?_
        exact mod_can_137_s hk64 x1 x2 x3 μ
      · refine sr_aload_n (i := 0) (pc' := 95) dX9_can_94 rfl rfl rfl ?_
        refine sr_iload_n (i := 1) (pc' := 96) dX9_can_95 rfl rfl rfl ?_
        refine sr_iload_n (i := 3) (pc' := 97) dX9_can_96 rfl rfl rfl ?_
        refine sr_iload (pc' := 99) dX9_can_97 rfl rfl ?_
        refine sr_callV3_I (pc' := 102) (mod_then_sp x1 x3 x4 μ) dX9_can_99 rfl mg_X9_then mi_X9_then (Or.inl ⟨9, _, TX9, 40, s88_61, rfl⟩) ⟨Nat.le_of_ble_eq_true rfl, Nat.le_of_ble_eq_true rfl⟩ w_343 (Nat.le_of_ble_eq_true rfl) (fun u2 hu2 hcu2 hzu2 => ?_)
        refine sr_istore (lv' := [some (vR 61), some (vI x1), some (vI x2), some (vI x3), some (vI x4), some (vI u2)]) (pc' := 104) dX9_can_102 rfl (by decide) rfl ?_
        refine sr_iload (pc' := 106) dX9_can_104 rfl rfl ?_
        refine sr_bipush (pc' := 108) dX9_can_106 rfl (by decide) (by decide) ?_
        refine sr_icmp_eq (pc' := 111) (tgt := 131) dX9_can_108 rfl rfl (fun c108 => ?_) (fun c108 => ?_)
        · refine sr_fgt (fgt_s (fgt_s (fgt_s (fgt_s (fgt_s (fgt_n fgt_nil)))))) ?_
          exact mod_can_131_s ih x1 x2 x3 x4 μ
        · refine sr_aload_n (i := 0) (pc' := 112) dX9_can_111 rfl rfl rfl ?_
          refine sr_getR (k := 35) (b := 84) (pc' := 115) cls_X9 dX9_can_112 rfl s88_61 rfl (by decide) w_342 ?_
          refine sr_iload (pc' := 117) dX9_can_115 rfl rfl ?_
          refine sr_zald (pc' := 118) dX9_can_117 rfl s88_84 (by decide) (fun v3 hv3 hv3a hv3b => ?_)
          refine sr_if_ne (pc' := 121) (tgt := 131) dX9_can_118 rfl rfl (fun c118 => ?_) (fun c118 => ?_)
          · refine sr_aload_n (i := 0) (pc' := 122) dX9_can_121 rfl rfl rfl ?_
            refine sr_getR (k := 35) (b := 84) (pc' := 125) cls_X9 dX9_can_122 rfl s88_61 rfl (by decide) w_342 ?_
            refine sr_iload (pc' := 127) dX9_can_125 rfl rfl ?_
            refine sr_iconst (pc' := 128) dX9_can_127 rfl (by decide) ?_
            refine sr_zast (pc' := 129) dX9_can_128 rfl s88_84 (by decide) (fun μ4 hμ4 hμ4a hμ4b => ?_)
            refine sr_iconst (pc' := 130) dX9_can_129 rfl (by decide) ?_
            refine sr_istore_n (i := 2) (lv' := [some (vR 61), some (vI x1), some (vI 1), some (vI x3), some (vI x4), some (vI u2)]) (pc' := 131) dX9_can_130 rfl rfl (by decide) rfl ?_
            refine sr_fgt (fgt_s (fgt_s (fgt_s (fgt_s (fgt_s (fgt_n fgt_nil)))))) ?_
            exact mod_can_131_s ih x1 1 x3 x4 μ4
          · refine sr_fgt (fgt_s (fgt_s (fgt_s (fgt_s (fgt_s (fgt_n fgt_nil)))))) ?_
            exact mod_can_131_s ih x1 x2 x3 x4 μ
def mod_can_64  (k56 : Int → Int → Mem → Option (Int × Mem)) : Nat → Int → Int → Int → Mem → Option (Int × Mem)
  | 0, _, _, _, _ => none
  | n + 1, x1, x2, x3, μ => if (wI ((wI (3 * (μ 61 2))) + 3)) ≤ x3 then (k56 x1 x2 μ) else (mod_can_79 (mod_can_64 k56 n) BIG x1 x2 x3 0 μ)
theorem mod_can_64_s {l : Launch} {G : Nv}   {k56 : Int → Int → Mem → Option (Int × Mem)} (hk56 : ∀ (x1 x2 : Int) (μ : Mem) , SR l G S88 mX9_can (k56 x1 x2 μ) jIM 56 [some (vR 61), some (vI x1), some (vI x2), none, none, none] [] μ) : ∀ (n : Nat) (x1 x2 x3 : Int) (μ : Mem), SR l G S88 mX9_can (mod_can_64 k56 n x1 x2 x3 μ) jIM 64 [some (vR 61), some (vI x1), some (vI x2), some (vI x3), none, none] [] μ := by
  intro n
  induction n with
  | zero => intro x1 x2 x3 μ; exact sr_none
  | succ n ih =>
    intro x1 x2 x3 μ
    rw [mod_can_64.eq_2]
    refine sr_iload_n (i := 3) (pc' := 65) dX9_can_64 rfl rfl rfl ?_
    refine sr_iconst (pc' := 66) dX9_can_65 rfl (by decide) ?_
    refine sr_aload_n (i := 0) (pc' := 67) dX9_can_66 rfl rfl rfl ?_
    refine sr_getI (k := 2) (pc' := 70) cls_X9 dX9_can_67 rfl s88_61 rfl (by decide) w_339 ?_
    refine sr_imul (pc' := 71) dX9_can_70 rfl ?_
    refine sr_iconst (pc' := 72) dX9_can_71 rfl (by decide) ?_
    refine sr_iadd (pc' := 73) dX9_can_72 rfl ?_
    refine sr_icmp_ge (pc' := 76) (tgt := 143) dX9_can_73 rfl rfl (fun c73 => ?_) (fun c73 => ?_)
    · refine sr_goto (pc' := 56) dX9_can_143 rfl ?_
      refine sr_fgt (fgt_s (fgt_s (fgt_s (fgt_n (fgt_s (fgt_s fgt_nil)))))) ?_
      exact hk56 x1 x2 μ
    · refine sr_iconst (pc' := 77) dX9_can_76 rfl (by decide) ?_
      refine sr_istore (lv' := [some (vR 61), some (vI x1), some (vI x2), some (vI x3), some (vI 0), none]) (pc' := 79) dX9_can_77 rfl (by decide) rfl ?_
      exact mod_can_79_s ih BIG x1 x2 x3 0 μ
def mod_can_151   : Nat → Int → Int → Mem → Option (Int × Mem)
  | 0, _, _, _ => none
  | n + 1, x3, x4, μ => if 63 ≤ x4 then (some (x3, μ)) else ((ld μ 84 63 x4).bind fun v1 => (mod_flag μ v1).bind fun u2 => bnd (iOr x3 (iShl u2 (iDiv x4 3))) fun v3 => mod_can_151 n v3 (wI (x4 + 1)) μ)
theorem mod_can_151_s {l : Launch} {G : Nv}     : ∀ (n : Nat) (x3 x4 : Int) (μ : Mem), SR l G S88 mX9_can (mod_can_151 n x3 x4 μ) jIM 151 [some (vR 61), none, none, some (vI x3), some (vI x4), none] [] μ := by
  intro n
  induction n with
  | zero => intro x3 x4 μ; exact sr_none
  | succ n ih =>
    intro x3 x4 μ
    rw [mod_can_151.eq_2]
    refine sr_iload (pc' := 153) dX9_can_151 rfl rfl ?_
    refine sr_bipush (pc' := 155) dX9_can_153 rfl (by decide) (by decide) ?_
    refine sr_icmp_ge (pc' := 158) (tgt := 182) dX9_can_155 rfl rfl (fun c155 => ?_) (fun c155 => ?_)
    · refine sr_iload_n (i := 3) (pc' := 183) dX9_can_182 rfl rfl rfl ?_
      exact sr_iretI dX9_can_183 rfl rfl
    · refine sr_iload_n (i := 3) (pc' := 159) dX9_can_158 rfl rfl rfl ?_
      refine sr_aload_n (i := 0) (pc' := 160) dX9_can_159 rfl rfl rfl ?_
      refine sr_getR (k := 35) (b := 84) (pc' := 163) cls_X9 dX9_can_160 rfl s88_61 rfl (by decide) w_342 ?_
      refine sr_iload (pc' := 165) dX9_can_163 rfl rfl ?_
      refine sr_zald (pc' := 166) dX9_can_165 rfl s88_84 (by decide) (fun v1 hv1 hv1a hv1b => ?_)
      refine sr_callS1_I (pc' := 169) (mod_flag_sp v1 μ) dX9_can_166 rfl mg_X9_flag ms_X9_flag ⟨Nat.le_of_ble_eq_true rfl, Nat.le_of_ble_eq_true rfl⟩ w_344 (Nat.le_of_ble_eq_true rfl) (fun u2 hu2 hcu2 hzu2 => ?_)
      refine sr_iload (pc' := 171) dX9_can_169 rfl rfl ?_
      refine sr_iconst (pc' := 172) dX9_can_171 rfl (by decide) ?_
      refine sr_idiv (pc' := 173) dX9_can_172 rfl (by decide) ?_
      refine sr_ishl (pc' := 174) dX9_can_173 rfl ?_
      refine sr_ior (pc' := 175) dX9_can_174 rfl ?_
      refine sr_bnd (fun v3 hv3 => ?_)
      refine sr_istore_n (i := 3) (lv' := [some (vR 61), none, none, some (vI v3), some (vI x4), none]) (pc' := 176) dX9_can_175 rfl rfl (by decide) rfl ?_
      refine sr_iinc (lv' := [some (vR 61), none, none, some (vI v3), some (vI (wI (x4 + 1))), none]) (pc' := 179) dX9_can_176 rfl (by decide) rfl rfl ?_
      refine sr_goto (pc' := 151) dX9_can_179 rfl ?_
      exact ih v3 (wI (x4 + 1)) μ
def mod_can_56   : Nat → Int → Int → Mem → Option (Int × Mem)
  | 0, _, _, _ => none
  | n + 1, x1, x2, μ => if x2 = 0 then (mod_can_151 BIG 0 0 μ) else (mod_can_64 (mod_can_56 n) BIG x1 0 0 μ)
theorem mod_can_56_s {l : Launch} {G : Nv}     : ∀ (n : Nat) (x1 x2 : Int) (μ : Mem), SR l G S88 mX9_can (mod_can_56 n x1 x2 μ) jIM 56 [some (vR 61), some (vI x1), some (vI x2), none, none, none] [] μ := by
  intro n
  induction n with
  | zero => intro x1 x2 μ; exact sr_none
  | succ n ih =>
    intro x1 x2 μ
    rw [mod_can_56.eq_2]
    refine sr_iload_n (i := 2) (pc' := 57) dX9_can_56 rfl rfl rfl ?_
    refine sr_if_eq (pc' := 60) (tgt := 146) dX9_can_57 rfl rfl (fun c57 => ?_) (fun c57 => ?_)
    · refine sr_iconst (pc' := 147) dX9_can_146 rfl (by decide) ?_
      refine sr_istore_n (i := 3) (lv' := [some (vR 61), some (vI x1), some (vI x2), some (vI 0), none, none]) (pc' := 148) dX9_can_147 rfl rfl (by decide) rfl ?_
      refine sr_iconst (pc' := 149) dX9_can_148 rfl (by decide) ?_
      refine sr_istore (lv' := [some (vR 61), some (vI x1), some (vI x2), some (vI 0), some (vI 0), none]) (pc' := 151) dX9_can_149 rfl (by decide) rfl ?_
      refine sr_fgt (fgt_s (fgt_n (fgt_n (fgt_s (fgt_s (fgt_s fgt_nil)))))) ?_
      exact mod_can_151_s BIG 0 0 μ
    · refine sr_iconst (pc' := 61) dX9_can_60 rfl (by decide) ?_
      refine sr_istore_n (i := 2) (lv' := [some (vR 61), some (vI x1), some (vI 0), none, none, none]) (pc' := 62) dX9_can_61 rfl rfl (by decide) rfl ?_
      refine sr_iconst (pc' := 63) dX9_can_62 rfl (by decide) ?_
      refine sr_istore_n (i := 3) (lv' := [some (vR 61), some (vI x1), some (vI 0), some (vI 0), none, none]) (pc' := 64) dX9_can_63 rfl rfl (by decide) rfl ?_
      exact mod_can_64_s ih BIG x1 0 0 μ
def mod_can_12   : Nat → Int → Int → Mem → Option (Int × Mem)
  | 0, _, _, _ => none
  | n + 1, x1, x2, μ => if 63 ≤ x2 then (mod_can_56 BIG x1 1 μ) else ((mod_of μ x1 4).bind fun u1 => (mod_of μ x1 1).bind fun u2 => if x2 = (wI ((wI (3 * u1)) + u2)) then (mod_can_47 (mod_can_12 n) x1 x2 x2 1 μ) else (mod_can_47 (mod_can_12 n) x1 x2 x2 0 μ))
theorem mod_can_12_s {l : Launch} {G : Nv}     : ∀ (n : Nat) (x1 x2 : Int) (μ : Mem), SR l G S88 mX9_can (mod_can_12 n x1 x2 μ) jIM 12 [some (vR 61), some (vI x1), some (vI x2), none, none, none] [] μ := by
  intro n
  induction n with
  | zero => intro x1 x2 μ; exact sr_none
  | succ n ih =>
    intro x1 x2 μ
    rw [mod_can_12.eq_2]
    refine sr_iload_n (i := 2) (pc' := 13) dX9_can_12 rfl rfl rfl ?_
    refine sr_bipush (pc' := 15) dX9_can_13 rfl (by decide) (by decide) ?_
    refine sr_icmp_ge (pc' := 18) (tgt := 54) dX9_can_15 rfl rfl (fun c15 => ?_) (fun c15 => ?_)
    · refine sr_iconst (pc' := 55) dX9_can_54 rfl (by decide) ?_
      refine sr_istore_n (i := 2) (lv' := [some (vR 61), some (vI x1), some (vI 1), none, none, none]) (pc' := 56) dX9_can_55 rfl rfl (by decide) rfl ?_
      exact mod_can_56_s BIG x1 1 μ
    · refine sr_aload_n (i := 0) (pc' := 19) dX9_can_18 rfl rfl rfl ?_
      refine sr_getR (k := 35) (b := 84) (pc' := 22) cls_X9 dX9_can_19 rfl s88_61 rfl (by decide) w_342 ?_
      refine sr_iload_n (i := 2) (pc' := 23) dX9_can_22 rfl rfl rfl ?_
      refine sr_iload_n (i := 2) (pc' := 24) dX9_can_23 rfl rfl rfl ?_
      refine sr_iconst (pc' := 25) dX9_can_24 rfl (by decide) ?_
      refine sr_aload_n (i := 0) (pc' := 26) dX9_can_25 rfl rfl rfl ?_
      refine sr_iload_n (i := 1) (pc' := 27) dX9_can_26 rfl rfl rfl ?_
      refine sr_iconst (pc' := 28) dX9_can_27 rfl (by decide) ?_
      refine sr_callV2_I (pc' := 31) (mod_of_sp x1 4 μ) dX9_can_28 rfl mg_X9_of mi_X9_of (Or.inl ⟨9, _, TX9, 40, s88_61, rfl⟩) ⟨Nat.le_of_ble_eq_true rfl, Nat.le_of_ble_eq_true rfl⟩ w_314 (Nat.le_of_ble_eq_true rfl) (fun u1 hu1 hcu1 hzu1 => ?_)
      refine sr_imul (pc' := 32) dX9_can_31 rfl ?_
      refine sr_aload_n (i := 0) (pc' := 33) dX9_can_32 rfl rfl rfl ?_
      refine sr_iload_n (i := 1) (pc' := 34) dX9_can_33 rfl rfl rfl ?_
      refine sr_iconst (pc' := 35) dX9_can_34 rfl (by decide) ?_
      refine sr_callV2_I (pc' := 38) (mod_of_sp x1 1 μ) dX9_can_35 rfl mg_X9_of mi_X9_of (Or.inl ⟨9, _, TX9, 40, s88_61, rfl⟩) ⟨Nat.le_of_ble_eq_true rfl, Nat.le_of_ble_eq_true rfl⟩ w_314 (Nat.le_of_ble_eq_true rfl) (fun u2 hu2 hcu2 hzu2 => ?_)
      refine sr_iadd (pc' := 39) dX9_can_38 rfl ?_
      refine sr_icmp_ne (pc' := 42) (tgt := 46) dX9_can_39 rfl rfl (fun c39 => ?_) (fun c39 => ?_)
      · refine sr_iconst (pc' := 43) dX9_can_42 rfl (by decide) ?_
        refine sr_goto (pc' := 47) dX9_can_43 rfl ?_
        exact mod_can_47_s ih x1 x2 x2 1 μ
      · refine sr_iconst (pc' := 47) dX9_can_46 rfl (by decide) ?_
        exact mod_can_47_s ih x1 x2 x2 0 μ
def mod_can   (x1 : Int) (μ : Mem) : Option (Int × Mem) := (mod_isCart μ x1).bind fun u1 => if u1 = 0 then (some ((-1), μ)) else (mod_can_12 BIG x1 0 μ)
theorem mod_can_sp {l : Launch} {G : Nv}   (x1 : Int) (μ : Mem) : SP l G S88 mX9_can [vR 61, vI x1] μ (mod_can x1 μ) jIM := by
  refine sp_go (lv := [some (vR 61), some (vI x1), none, none, none, none]) pn_X9 (Nat.le_of_ble_eq_true rfl) rfl ?_
  unfold mod_can
  refine sr_aload_n (i := 0) (pc' := 1) dX9_can_0 rfl rfl rfl ?_
  refine sr_iload_n (i := 1) (pc' := 2) dX9_can_1 rfl rfl rfl ?_
  refine sr_callV1_I (pc' := 5) (mod_isCart_sp x1 μ) dX9_can_2 rfl mg_X9_isCart mi_X9_isCart (Or.inl ⟨9, _, TX9, 40, s88_61, rfl⟩) ⟨Nat.le_of_ble_eq_true rfl, Nat.le_of_ble_eq_true rfl⟩ w_345 (Nat.le_of_ble_eq_true rfl) (fun u1 hu1 hcu1 hzu1 => ?_)
  refine sr_if_ne (pc' := 8) (tgt := 10) dX9_can_5 rfl rfl (fun c5 => ?_) (fun c5 => ?_)
  · refine sr_iconst (pc' := 9) dX9_can_8 rfl (by decide) ?_
    exact sr_iretI dX9_can_9 rfl rfl
  · refine sr_iconst (pc' := 11) dX9_can_10 rfl (by decide) ?_
    refine sr_istore_n (i := 2) (lv' := [some (vR 61), some (vI x1), some (vI 0), none, none, none]) (pc' := 12) dX9_can_11 rfl rfl (by decide) rfl ?_
    exact mod_can_12_s BIG x1 0 μ
def mod_cart (μ : Mem)  (x1 x2 : Int) : Option (Int) := (mod_isCart μ x1).bind fun u1 => if u1 = 0 then (some (-1)) else ((mod_in μ x2 0 6).bind fun u2 => if u2 = 0 then (some (-1)) else ((mod_of μ x1 x2).bind fun u3 => some u3))
theorem mod_cart_sp {l : Launch} {G : Nv}   (x1 x2 : Int) (μ : Mem) : SP l G S88 mX9_cart [vR 61, vI x1, vI x2] μ (mod_cart μ x1 x2) (jI μ) := by
  refine sp_go (lv := [some (vR 61), some (vI x1), some (vI x2)]) pn_X9 (Nat.le_of_ble_eq_true rfl) rfl ?_
  unfold mod_cart
  refine sr_aload_n (i := 0) (pc' := 1) dX9_cart_0 rfl rfl rfl ?_
  refine sr_iload_n (i := 1) (pc' := 2) dX9_cart_1 rfl rfl rfl ?_
  refine sr_callV1_I (pc' := 5) (mod_isCart_sp x1 μ) dX9_cart_2 rfl mg_X9_isCart mi_X9_isCart (Or.inl ⟨9, _, TX9, 40, s88_61, rfl⟩) ⟨Nat.le_of_ble_eq_true rfl, Nat.le_of_ble_eq_true rfl⟩ w_345 (Nat.le_of_ble_eq_true rfl) (fun u1 hu1 hcu1 hzu1 => ?_)
  refine sr_if_eq (pc' := 8) (tgt := 29) dX9_cart_5 rfl rfl (fun c5 => ?_) (fun c5 => ?_)
  · refine sr_iconst (pc' := 30) dX9_cart_29 rfl (by decide) ?_
    exact sr_iretI dX9_cart_30 rfl rfl
  · refine sr_iload_n (i := 2) (pc' := 9) dX9_cart_8 rfl rfl rfl ?_
    refine sr_i2l (pc' := 10) dX9_cart_9 rfl ?_
    refine sr_lconst (x := 0) (pc' := 11) dX9_cart_10 rfl (by decide) rfl ?_
    refine sr_ldc2 (x := 6) (pc' := 14) dX9_cart_11 rfl (by decide) w_346 ?_
    refine sr_callS3_I (pc' := 17) (mod_in_sp x2 0 6 μ) dX9_cart_14 rfl mg_X9_in ms_X9_in ⟨Nat.le_of_ble_eq_true rfl, Nat.le_of_ble_eq_true rfl⟩ w_336 (Nat.le_of_ble_eq_true rfl) (fun u2 hu2 hcu2 hzu2 => ?_)
    refine sr_if_eq (pc' := 20) (tgt := 29) dX9_cart_17 rfl rfl (fun c17 => ?_) (fun c17 => ?_)
    · refine sr_iconst (pc' := 30) dX9_cart_29 rfl (by decide) ?_
      exact sr_iretI dX9_cart_30 rfl rfl
    · refine sr_aload_n (i := 0) (pc' := 21) dX9_cart_20 rfl rfl rfl ?_
      refine sr_iload_n (i := 1) (pc' := 22) dX9_cart_21 rfl rfl rfl ?_
      refine sr_iload_n (i := 2) (pc' := 23) dX9_cart_22 rfl rfl rfl ?_
      refine sr_callV2_I (pc' := 26) (mod_of_sp x1 x2 μ) dX9_cart_23 rfl mg_X9_of mi_X9_of (Or.inl ⟨9, _, TX9, 40, s88_61, rfl⟩) ⟨Nat.le_of_ble_eq_true rfl, Nat.le_of_ble_eq_true rfl⟩ w_314 (Nat.le_of_ble_eq_true rfl) (fun u3 hu3 hcu3 hzu3 => ?_)
      refine sr_goto (pc' := 30) dX9_cart_26 rfl ?_
      exact sr_iretI dX9_cart_30 rfl rfl
def mod_coinsOf (μ : Mem)  (x1 x2 x3 : Int) : Option (Int) := if x3 ≤ 1 then ((mod_of μ x1 0).bind fun u1 => if u1 = 4 then (some 0) else ((mod_then μ x1 x2 x3).bind fun u2 => (ld μ 67 63 u2).bind fun v3 => some v3)) else ((ld μ 66 21 (iDiv x2 3)).bind fun v4 => some v4)
theorem mod_coinsOf_sp {l : Launch} {G : Nv}   (x1 x2 x3 : Int) (μ : Mem) : SP l G S88 mX9_coinsOf [vR 61, vI x1, vI x2, vI x3] μ (mod_coinsOf μ x1 x2 x3) (jI μ) := by
  refine sp_go (lv := [some (vR 61), some (vI x1), some (vI x2), some (vI x3)]) pn_X9 (Nat.le_of_ble_eq_true rfl) rfl ?_
  unfold mod_coinsOf
  refine sr_iload_n (i := 3) (pc' := 1) dX9_coinsOf_0 rfl rfl rfl ?_
  refine sr_iconst (pc' := 2) dX9_coinsOf_1 rfl (by decide) ?_
  refine sr_icmp_le (pc' := 5) (tgt := 16) dX9_coinsOf_2 rfl rfl (fun c2 => ?_) (fun c2 => ?_)
  · refine sr_aload_n (i := 0) (pc' := 17) dX9_coinsOf_16 rfl rfl rfl ?_
    refine sr_iload_n (i := 1) (pc' := 18) dX9_coinsOf_17 rfl rfl rfl ?_
    refine sr_iconst (pc' := 19) dX9_coinsOf_18 rfl (by decide) ?_
    refine sr_callV2_I (pc' := 22) (mod_of_sp x1 0 μ) dX9_coinsOf_19 rfl mg_X9_of mi_X9_of (Or.inl ⟨9, _, TX9, 40, s88_61, rfl⟩) ⟨Nat.le_of_ble_eq_true rfl, Nat.le_of_ble_eq_true rfl⟩ w_314 (Nat.le_of_ble_eq_true rfl) (fun u1 hu1 hcu1 hzu1 => ?_)
    refine sr_iconst (pc' := 23) dX9_coinsOf_22 rfl (by decide) ?_
    refine sr_icmp_ne (pc' := 26) (tgt := 30) dX9_coinsOf_23 rfl rfl (fun c23 => ?_) (fun c23 => ?_)
    · refine sr_iconst (pc' := 27) dX9_coinsOf_26 rfl (by decide) ?_
      refine sr_goto (pc' := 42) dX9_coinsOf_27 rfl ?_
      exact sr_iretI dX9_coinsOf_42 rfl rfl
    · refine sr_aload_n (i := 0) (pc' := 31) dX9_coinsOf_30 rfl rfl rfl ?_
      refine sr_getR (k := 6) (b := 67) (pc' := 34) cls_X9 dX9_coinsOf_31 rfl s88_61 rfl (by decide) w_321 ?_
      refine sr_aload_n (i := 0) (pc' := 35) dX9_coinsOf_34 rfl rfl rfl ?_
      refine sr_iload_n (i := 1) (pc' := 36) dX9_coinsOf_35 rfl rfl rfl ?_
      refine sr_iload_n (i := 2) (pc' := 37) dX9_coinsOf_36 rfl rfl rfl ?_
      refine sr_iload_n (i := 3) (pc' := 38) dX9_coinsOf_37 rfl rfl rfl ?_
      refine sr_callV3_I (pc' := 41) (mod_then_sp x1 x2 x3 μ) dX9_coinsOf_38 rfl mg_X9_then mi_X9_then (Or.inl ⟨9, _, TX9, 40, s88_61, rfl⟩) ⟨Nat.le_of_ble_eq_true rfl, Nat.le_of_ble_eq_true rfl⟩ w_343 (Nat.le_of_ble_eq_true rfl) (fun u2 hu2 hcu2 hzu2 => ?_)
      refine sr_iald (pc' := 42) dX9_coinsOf_41 rfl s88_67 (by decide) (fun v3 hv3 hv3a hv3b => ?_)
      exact sr_iretI dX9_coinsOf_42 rfl rfl
  · refine sr_aload_n (i := 0) (pc' := 6) dX9_coinsOf_5 rfl rfl rfl ?_
    refine sr_getR (k := 5) (b := 66) (pc' := 9) cls_X9 dX9_coinsOf_6 rfl s88_61 rfl (by decide) w_341 ?_
    refine sr_iload_n (i := 2) (pc' := 10) dX9_coinsOf_9 rfl rfl rfl ?_
    refine sr_iconst (pc' := 11) dX9_coinsOf_10 rfl (by decide) ?_
    refine sr_idiv (pc' := 12) dX9_coinsOf_11 rfl (by decide) ?_
    refine sr_iald (pc' := 13) dX9_coinsOf_12 rfl s88_66 (by decide) (fun v4 hv4 hv4a hv4b => ?_)
    refine sr_goto (pc' := 42) dX9_coinsOf_13 rfl ?_
    exact sr_iretI dX9_coinsOf_42 rfl rfl
