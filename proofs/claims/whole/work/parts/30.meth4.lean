def ww_shares_98 (μ : Mem) (k101 : Int → Int → Int → Int → Int → Int → Option (Int)) (x1 x2 x3 x4 x5 x6 : Int) : Option (Int) := k101 x1 x2 (wI (x3 + 1)) x4 x5 x6
theorem ww_shares_98_s {l : Launch} {G : Nv}   (μ : Mem) {k101 : Int → Int → Int → Int → Int → Int → Option (Int)} (hk101 : ∀ (x1 x2 x3 x4 x5 x6 : Int) , SR l G S88 mX8_shares (k101 x1 x2 x3 x4 x5 x6) (jI μ) 101 [some (vR 0), some (vI x1), some (vI x2), some (vI x3), some (vI x4), some (vI x5), some (vI x6)] [] μ) : ∀ (x1 x2 x3 x4 x5 x6 : Int), SR l G S88 mX8_shares (ww_shares_98 μ k101 x1 x2 x3 x4 x5 x6) (jI μ) 98 [some (vR 0), some (vI x1), some (vI x2), some (vI x3), some (vI x4), some (vI x5), some (vI x6)] [] μ := by
  intro x1 x2 x3 x4 x5 x6
  unfold ww_shares_98
  refine sr_iinc (lv' := [some (vR 0), some (vI x1), some (vI x2), some (vI (wI (x3 + 1))), some (vI x4), some (vI x5), some (vI x6)]) (pc' := 101) dX8_shares_98 rfl (by decide) rfl rfl ?_
  exact hk101 x1 x2 (wI (x3 + 1)) x4 x5 x6
def ww_shares_101 (μ : Mem) (k42 : Int → Int → Int → Int → Int → Int → Option (Int)) (x1 x2 x3 x4 x5 x6 : Int) : Option (Int) := k42 x1 x2 x3 x4 x5 (wI (x6 + 1))
theorem ww_shares_101_s {l : Launch} {G : Nv}   (μ : Mem) {k42 : Int → Int → Int → Int → Int → Int → Option (Int)} (hk42 : ∀ (x1 x2 x3 x4 x5 x6 : Int) , SR l G S88 mX8_shares (k42 x1 x2 x3 x4 x5 x6) (jI μ) 42 [some (vR 0), some (vI x1), some (vI x2), some (vI x3), some (vI x4), some (vI x5), some (vI x6)] [] μ) : ∀ (x1 x2 x3 x4 x5 x6 : Int), SR l G S88 mX8_shares (ww_shares_101 μ k42 x1 x2 x3 x4 x5 x6) (jI μ) 101 [some (vR 0), some (vI x1), some (vI x2), some (vI x3), some (vI x4), some (vI x5), some (vI x6)] [] μ := by
  intro x1 x2 x3 x4 x5 x6
  unfold ww_shares_101
  refine sr_iinc (lv' := [some (vR 0), some (vI x1), some (vI x2), some (vI x3), some (vI x4), some (vI x5), some (vI (wI (x6 + 1)))]) (pc' := 104) dX8_shares_101 rfl (by decide) rfl rfl ?_
  refine sr_goto (pc' := 42) dX8_shares_104 rfl ?_
  exact hk42 x1 x2 x3 x4 x5 (wI (x6 + 1))
def ww_shares_42 (μ : Mem) (k33 : Int → Int → Int → Int → Int → Option (Int)) : Nat → Int → Int → Int → Int → Int → Int → Option (Int)
  | 0, _, _, _, _, _, _ => none
  | n + 1, x1, x2, x3, x4, x5, x6 => if (wI (x2 - x5)) < x6 then (k33 x1 x2 x3 x4 (wI (x5 + 1))) else ((roa_isFirm 1 μ x5 x6 (wI ((wI (x2 - x5)) - x6))).bind fun u1 => if u1 = 0 then (ww_shares_101 μ (ww_shares_42 μ k33 n) x1 x2 x3 x4 x5 x6) else (if x3 = 0 then (bnd (wI ((wI ((wI ((wI ((wI (10000 * x5)) + (wI (100 * x6)))) + x2)) - x5)) - x6)) fun v2 => ww_shares_98 μ (ww_shares_101 μ (ww_shares_42 μ k33 n)) x1 x2 x3 v2 x5 x6) else (ww_shares_98 μ (ww_shares_101 μ (ww_shares_42 μ k33 n)) x1 x2 x3 x4 x5 x6)))
theorem ww_shares_42_s {l : Launch} {G : Nv}   (μ : Mem) {k33 : Int → Int → Int → Int → Int → Option (Int)} (hk33 : ∀ (x1 x2 x3 x4 x5 : Int) , SR l G S88 mX8_shares (k33 x1 x2 x3 x4 x5) (jI μ) 33 [some (vR 0), some (vI x1), some (vI x2), some (vI x3), some (vI x4), some (vI x5), none] [] μ) : ∀ (n : Nat) (x1 x2 x3 x4 x5 x6 : Int), SR l G S88 mX8_shares (ww_shares_42 μ k33 n x1 x2 x3 x4 x5 x6) (jI μ) 42 [some (vR 0), some (vI x1), some (vI x2), some (vI x3), some (vI x4), some (vI x5), some (vI x6)] [] μ := by
  intro n
  induction n with
  | zero => intro x1 x2 x3 x4 x5 x6; exact sr_none
  | succ n ih =>
    intro x1 x2 x3 x4 x5 x6
    rw [ww_shares_42.eq_2]
    refine sr_iload (pc' := 44) dX8_shares_42 rfl rfl ?_
    refine sr_iload_n (i := 2) (pc' := 45) dX8_shares_44 rfl rfl rfl ?_
    refine sr_iload (pc' := 47) dX8_shares_45 rfl rfl ?_
    refine sr_isub (pc' := 48) dX8_shares_47 rfl ?_
    refine sr_icmp_gt (pc' := 51) (tgt := 107) dX8_shares_48 rfl rfl (fun c48 => ?_) (fun c48 => ?_)
    · refine sr_iinc (lv' := [some (vR 0), some (vI x1), some (vI x2), some (vI x3), some (vI x4), some (vI (wI (x5 + 1))), some (vI x6)]) (pc' := 110) dX8_shares_107 rfl (by decide) rfl rfl ?_
      refine sr_goto (pc' := 33) dX8_shares_110 rfl ?_
      refine sr_fgt (fgt_s (fgt_s (fgt_s (fgt_s (fgt_s (fgt_s (fgt_n fgt_nil))))))) ?_
      exact hk33 x1 x2 x3 x4 (wI (x5 + 1))
    · refine sr_aload_n (i := 0) (pc' := 52) dX8_shares_51 rfl rfl rfl ?_
      refine sr_getR (k := 0) (b := 1) (pc' := 55) cls_X8 dX8_shares_52 rfl s88_0 rfl (by decide) w_19 ?_
      refine sr_iload (pc' := 57) dX8_shares_55 rfl rfl ?_
      refine sr_iload (pc' := 59) dX8_shares_57 rfl rfl ?_
      refine sr_iload_n (i := 2) (pc' := 60) dX8_shares_59 rfl rfl rfl ?_
      refine sr_iload (pc' := 62) dX8_shares_60 rfl rfl ?_
      refine sr_isub (pc' := 63) dX8_shares_62 rfl ?_
      refine sr_iload (pc' := 65) dX8_shares_63 rfl rfl ?_
      refine sr_isub (pc' := 66) dX8_shares_65 rfl ?_
      refine sr_callVN3_I (pc' := 69) (roa_isFirm_sp isRoad_1 x5 x6 (wI ((wI (x2 - x5)) - x6)) μ) dX8_shares_66 rfl mg_X4_isFirm mi_X4_isFirm (Or.inl ⟨4, _, TX4, 12, isRoad_1.1, rfl⟩) ⟨Nat.le_of_ble_eq_true rfl, Nat.le_of_ble_eq_true rfl⟩ w_127 (Nat.le_of_ble_eq_true rfl) (fun u1 hu1 hcu1 hzu1 => ?_)
      refine sr_if_eq (pc' := 72) (tgt := 101) dX8_shares_69 rfl rfl (fun c69 => ?_) (fun c69 => ?_)
      · exact ww_shares_101_s μ ih x1 x2 x3 x4 x5 x6
      · refine sr_iload_n (i := 3) (pc' := 73) dX8_shares_72 rfl rfl rfl ?_
        refine sr_if_ne (pc' := 76) (tgt := 98) dX8_shares_73 rfl rfl (fun c73 => ?_) (fun c73 => ?_)
        · refine sr_sipush (pc' := 79) dX8_shares_76 rfl (by decide) (by decide) ?_
          refine sr_iload (pc' := 81) dX8_shares_79 rfl rfl ?_
          refine sr_imul (pc' := 82) dX8_shares_81 rfl ?_
          refine sr_bipush (pc' := 84) dX8_shares_82 rfl (by decide) (by decide) ?_
          refine sr_iload (pc' := 86) dX8_shares_84 rfl rfl ?_
          refine sr_imul (pc' := 87) dX8_shares_86 rfl ?_
          refine sr_iadd (pc' := 88) dX8_shares_87 rfl ?_
          refine sr_iload_n (i := 2) (pc' := 89) dX8_shares_88 rfl rfl rfl ?_
          refine sr_iadd (pc' := 90) dX8_shares_89 rfl ?_
          refine sr_iload (pc' := 92) dX8_shares_90 rfl rfl ?_
          refine sr_isub (pc' := 93) dX8_shares_92 rfl ?_
          refine sr_iload (pc' := 95) dX8_shares_93 rfl rfl ?_
          refine sr_isub (pc' := 96) dX8_shares_95 rfl ?_
          refine sr_bnd (fun v2 hv2 => ?_)
          refine sr_istore (lv' := [some (vR 0), some (vI x1), some (vI x2), some (vI x3), some (vI v2), some (vI x5), some (vI x6)]) (pc' := 98) dX8_shares_96 rfl (by decide) rfl ?_
          exact ww_shares_98_s μ (ww_shares_101_s μ ih) x1 x2 x3 v2 x5 x6
        · exact ww_shares_98_s μ (ww_shares_101_s μ ih) x1 x2 x3 x4 x5 x6
def ww_shares_33 (μ : Mem)  : Nat → Int → Int → Int → Int → Int → Option (Int)
  | 0, _, _, _, _, _ => none
  | n + 1, x1, x2, x3, x4, x5 => if x2 < x5 then (if x1 = 0 then (some x3) else (some x4)) else (ww_shares_42 μ (ww_shares_33 μ n) BIG x1 x2 x3 x4 x5 0)
theorem ww_shares_33_s {l : Launch} {G : Nv}   (μ : Mem)   : ∀ (n : Nat) (x1 x2 x3 x4 x5 : Int), SR l G S88 mX8_shares (ww_shares_33 μ n x1 x2 x3 x4 x5) (jI μ) 33 [some (vR 0), some (vI x1), some (vI x2), some (vI x3), some (vI x4), some (vI x5), none] [] μ := by
  intro n
  induction n with
  | zero => intro x1 x2 x3 x4 x5; exact sr_none
  | succ n ih =>
    intro x1 x2 x3 x4 x5
    rw [ww_shares_33.eq_2]
    refine sr_iload (pc' := 35) dX8_shares_33 rfl rfl ?_
    refine sr_iload_n (i := 2) (pc' := 36) dX8_shares_35 rfl rfl rfl ?_
    refine sr_icmp_gt (pc' := 39) (tgt := 113) dX8_shares_36 rfl rfl (fun c36 => ?_) (fun c36 => ?_)
    · refine sr_iload_n (i := 1) (pc' := 114) dX8_shares_113 rfl rfl rfl ?_
      refine sr_if_ne (pc' := 117) (tgt := 121) dX8_shares_114 rfl rfl (fun c114 => ?_) (fun c114 => ?_)
      · refine sr_iload_n (i := 3) (pc' := 118) dX8_shares_117 rfl rfl rfl ?_
        refine sr_goto (pc' := 123) dX8_shares_118 rfl ?_
        exact sr_iretI dX8_shares_123 rfl rfl
      · refine sr_iload (pc' := 123) dX8_shares_121 rfl rfl ?_
        exact sr_iretI dX8_shares_123 rfl rfl
    · refine sr_iconst (pc' := 40) dX8_shares_39 rfl (by decide) ?_
      refine sr_istore (lv' := [some (vR 0), some (vI x1), some (vI x2), some (vI x3), some (vI x4), some (vI x5), some (vI 0)]) (pc' := 42) dX8_shares_40 rfl (by decide) rfl ?_
      exact ww_shares_42_s μ ih BIG x1 x2 x3 x4 x5 0
def ww_shares (μ : Mem)  (x1 : Int) : Option (Int) := if x1 < 0 then (some (-1)) else (if x1 ≤ 1 then ((ww_at 7 8 μ 7).bind fun u1 => ww_shares_33 μ BIG x1 u1 0 (-4) 0) else (some (-1)))
theorem ww_shares_sp {l : Launch} {G : Nv}   (x1 : Int) (μ : Mem) : SP l G S88 mX8_shares [vR 0, vI x1] μ (ww_shares μ x1) (jI μ) := by
  refine sp_go (lv := [some (vR 0), some (vI x1), none, none, none, none, none]) pn_X8 (Nat.le_of_ble_eq_true rfl) rfl ?_
  unfold ww_shares
  refine sr_iload_n (i := 1) (pc' := 1) dX8_shares_0 rfl rfl rfl ?_
  refine sr_if_lt (pc' := 4) (tgt := 9) dX8_shares_1 rfl rfl (fun c1 => ?_) (fun c1 => ?_)
  · refine sr_iconst (pc' := 10) dX8_shares_9 rfl (by decide) ?_
    exact sr_iretI dX8_shares_10 rfl rfl
  · refine sr_iload_n (i := 1) (pc' := 5) dX8_shares_4 rfl rfl rfl ?_
    refine sr_iconst (pc' := 6) dX8_shares_5 rfl (by decide) ?_
    refine sr_icmp_le (pc' := 9) (tgt := 11) dX8_shares_6 rfl rfl (fun c6 => ?_) (fun c6 => ?_)
    · refine sr_aload_n (i := 0) (pc' := 12) dX8_shares_11 rfl rfl rfl ?_
      refine sr_getR (k := 0) (b := 1) (pc' := 15) cls_X8 dX8_shares_12 rfl s88_0 rfl (by decide) w_19 ?_
      refine sr_getR (k := 5) (b := 7) (pc' := 18) cls_X4 dX8_shares_15 rfl isRoad_1.1 rfl (by decide) w_47 ?_
      refine sr_bipush (pc' := 20) dX8_shares_18 rfl (by decide) (by decide) ?_
      refine sr_callS2_I (pc' := 23) (ww_at_sp isRoad_1.2.2.2.2.2.2.1 (by decide) 7 μ) dX8_shares_20 rfl mg_X8_at ms_X8_at ⟨Nat.le_of_ble_eq_true rfl, Nat.le_of_ble_eq_true rfl⟩ w_48 (Nat.le_of_ble_eq_true rfl) (fun u1 hu1 hcu1 hzu1 => ?_)
      refine sr_istore_n (i := 2) (lv' := [some (vR 0), some (vI x1), some (vI u1), none, none, none, none]) (pc' := 24) dX8_shares_23 rfl rfl (by decide) rfl ?_
      refine sr_iconst (pc' := 25) dX8_shares_24 rfl (by decide) ?_
      refine sr_istore_n (i := 3) (lv' := [some (vR 0), some (vI x1), some (vI u1), some (vI 0), none, none, none]) (pc' := 26) dX8_shares_25 rfl rfl (by decide) rfl ?_
      refine sr_bipush (pc' := 28) dX8_shares_26 rfl (by decide) (by decide) ?_
      refine sr_istore (lv' := [some (vR 0), some (vI x1), some (vI u1), some (vI 0), some (vI (-4)), none, none]) (pc' := 30) dX8_shares_28 rfl (by decide) rfl ?_
      refine sr_iconst (pc' := 31) dX8_shares_30 rfl (by decide) ?_
      refine sr_istore (lv' := [some (vR 0), some (vI x1), some (vI u1), some (vI 0), some (vI (-4)), some (vI 0), none]) (pc' := 33) dX8_shares_31 rfl (by decide) rfl ?_
      exact ww_shares_33_s μ BIG x1 u1 0 (-4) 0
    · refine sr_iconst (pc' := 10) dX8_shares_9 rfl (by decide) ?_
      exact sr_iretI dX8_shares_10 rfl rfl
def she_make_21   : Nat → Int → Int → Int → Mem → Option (Mem)
  | 0, _, _, _, _ => none
  | n + 1, x1, x3, x4, μ => if x3 ≤ x4 then (some μ) else ((ww_put 58 160 (wI ((wI (x1 * 40)) + x4)) 0 μ).bind fun μ1 => she_make_21 n x1 x3 (wI (x4 + 1)) μ1)
theorem she_make_21_s {l : Launch} {G : Nv}     : ∀ (n : Nat) (x1 x3 x4 : Int) (μ : Mem), SR l G S88 mX6_make (she_make_21 n x1 x3 x4 μ) jM 21 [some (vR 57), some (vI x1), none, some (vI x3), some (vI x4)] [] μ := by
  intro n
  induction n with
  | zero => intro x1 x3 x4 μ; exact sr_none
  | succ n ih =>
    intro x1 x3 x4 μ
    rw [she_make_21.eq_2]
    refine sr_iload (pc' := 23) dX6_make_21 rfl rfl ?_
    refine sr_iload_n (i := 3) (pc' := 24) dX6_make_23 rfl rfl rfl ?_
    refine sr_icmp_ge (pc' := 27) (tgt := 48) dX6_make_24 rfl rfl (fun c24 => ?_) (fun c24 => ?_)
    · exact sr_ret dX6_make_48 rfl rfl
    · refine sr_aload_n (i := 0) (pc' := 28) dX6_make_27 rfl rfl rfl ?_
      refine sr_getR (k := 0) (b := 58) (pc' := 31) cls_X6 dX6_make_28 rfl s88_57 rfl (by decide) w_139 ?_
      refine sr_iload_n (i := 1) (pc' := 32) dX6_make_31 rfl rfl rfl ?_
      refine sr_bipush (pc' := 34) dX6_make_32 rfl (by decide) (by decide) ?_
      refine sr_imul (pc' := 35) dX6_make_34 rfl ?_
      refine sr_iload (pc' := 37) dX6_make_35 rfl rfl ?_
      refine sr_iadd (pc' := 38) dX6_make_37 rfl ?_
      refine sr_iconst (pc' := 39) dX6_make_38 rfl (by decide) ?_
      refine sr_callSN3_M (pc' := 42) (ww_put_sp s88_58 (by decide) (wI ((wI (x1 * 40)) + x4)) 0 μ) dX6_make_39 rfl mg_X8_put ms_X8_put ⟨Nat.le_of_ble_eq_true rfl, Nat.le_of_ble_eq_true rfl⟩ w_140 (Nat.le_of_ble_eq_true rfl) (fun μ1 hμ1 => ?_)
      refine sr_iinc (lv' := [some (vR 57), some (vI x1), none, some (vI x3), some (vI (wI (x4 + 1)))]) (pc' := 45) dX6_make_42 rfl (by decide) rfl rfl ?_
      refine sr_goto (pc' := 21) dX6_make_45 rfl ?_
      exact ih x1 x3 (wI (x4 + 1)) μ1
def she_make   (x1 x2 x3 : Int) (μ : Mem) : Option (Mem) := (ww_put 59 4 x1 x2 μ).bind fun μ1 => (ww_put 60 4 x1 x3 μ1).bind fun μ2 => she_make_21 BIG x1 x3 0 μ2
theorem she_make_sp {l : Launch} {G : Nv}   (x1 x2 x3 : Int) (μ : Mem) : SP l G S88 mX6_make [vR 57, vI x1, vI x2, vI x3] μ (she_make x1 x2 x3 μ) jM := by
  refine sp_go (lv := [some (vR 57), some (vI x1), some (vI x2), some (vI x3), none]) pn_X6 (Nat.le_of_ble_eq_true rfl) rfl ?_
  unfold she_make
  refine sr_aload_n (i := 0) (pc' := 1) dX6_make_0 rfl rfl rfl ?_
  refine sr_getR (k := 1) (b := 59) (pc' := 4) cls_X6 dX6_make_1 rfl s88_57 rfl (by decide) w_141 ?_
  refine sr_iload_n (i := 1) (pc' := 5) dX6_make_4 rfl rfl rfl ?_
  refine sr_iload_n (i := 2) (pc' := 6) dX6_make_5 rfl rfl rfl ?_
  refine sr_callSN3_M (pc' := 9) (ww_put_sp s88_59 (by decide) x1 x2 μ) dX6_make_6 rfl mg_X8_put ms_X8_put ⟨Nat.le_of_ble_eq_true rfl, Nat.le_of_ble_eq_true rfl⟩ w_140 (Nat.le_of_ble_eq_true rfl) (fun μ1 hμ1 => ?_)
  refine sr_aload_n (i := 0) (pc' := 10) dX6_make_9 rfl rfl rfl ?_
  refine sr_getR (k := 2) (b := 60) (pc' := 13) cls_X6 dX6_make_10 rfl s88_57 rfl (by decide) w_52 ?_
  refine sr_iload_n (i := 1) (pc' := 14) dX6_make_13 rfl rfl rfl ?_
  refine sr_iload_n (i := 3) (pc' := 15) dX6_make_14 rfl rfl rfl ?_
  refine sr_callSN3_M (pc' := 18) (ww_put_sp s88_60 (by decide) x1 x3 μ1) dX6_make_15 rfl mg_X8_put ms_X8_put ⟨Nat.le_of_ble_eq_true rfl, Nat.le_of_ble_eq_true rfl⟩ w_140 (Nat.le_of_ble_eq_true rfl) (fun μ2 hμ2 => ?_)
  refine sr_iconst (pc' := 19) dX6_make_18 rfl (by decide) ?_
  refine sr_istore (lv' := [some (vR 57), some (vI x1), some (vI x2), some (vI x3), some (vI 0)]) (pc' := 21) dX6_make_19 rfl (by decide) rfl ?_
  refine sr_fgt (fgt_s (fgt_s (fgt_n (fgt_s (fgt_s fgt_nil))))) ?_
  exact she_make_21_s BIG x1 x3 0 μ2
def ww_sheet   (x1 x2 x3 : Int) (μ : Mem) : Option (Int × Mem) := (she_isSheet μ x1).bind fun u1 => if u1 = 0 then (some ((-1), μ)) else ((she_isLane μ x2).bind fun u2 => if u2 = 0 then (some ((-1), μ)) else (if x3 ≤ 40 then (if 0 ≤ x3 then ((she_make x1 x2 x3 μ).bind fun μ3 => some (1, μ3)) else (some ((-14), μ))) else (some ((-1), μ))))
theorem ww_sheet_sp {l : Launch} {G : Nv}   (x1 x2 x3 : Int) (μ : Mem) : SP l G S88 mX8_sheet [vR 0, vI x1, vI x2, vI x3] μ (ww_sheet x1 x2 x3 μ) jIM := by
  refine sp_go (lv := [some (vR 0), some (vI x1), some (vI x2), some (vI x3)]) pn_X8 (Nat.le_of_ble_eq_true rfl) rfl ?_
  unfold ww_sheet
  refine sr_iload_n (i := 1) (pc' := 1) dX8_sheet_0 rfl rfl rfl ?_
  refine sr_callSN1_I (pc' := 4) (she_isSheet_sp x1 μ) dX8_sheet_1 rfl mg_X6_isSheet ms_X6_isSheet ⟨Nat.le_of_ble_eq_true rfl, Nat.le_of_ble_eq_true rfl⟩ w_143 (Nat.le_of_ble_eq_true rfl) (fun u1 hu1 hcu1 hzu1 => ?_)
  refine sr_if_eq (pc' := 7) (tgt := 20) dX8_sheet_4 rfl rfl (fun c4 => ?_) (fun c4 => ?_)
  · refine sr_iconst (pc' := 21) dX8_sheet_20 rfl (by decide) ?_
    exact sr_iretI dX8_sheet_21 rfl rfl
  · refine sr_iload_n (i := 2) (pc' := 8) dX8_sheet_7 rfl rfl rfl ?_
    refine sr_callSN1_I (pc' := 11) (she_isLane_sp x2 μ) dX8_sheet_8 rfl mg_X6_isLane ms_X6_isLane ⟨Nat.le_of_ble_eq_true rfl, Nat.le_of_ble_eq_true rfl⟩ w_214 (Nat.le_of_ble_eq_true rfl) (fun u2 hu2 hcu2 hzu2 => ?_)
    refine sr_if_eq (pc' := 14) (tgt := 20) dX8_sheet_11 rfl rfl (fun c11 => ?_) (fun c11 => ?_)
    · refine sr_iconst (pc' := 21) dX8_sheet_20 rfl (by decide) ?_
      exact sr_iretI dX8_sheet_21 rfl rfl
    · refine sr_iload_n (i := 3) (pc' := 15) dX8_sheet_14 rfl rfl rfl ?_
      refine sr_bipush (pc' := 17) dX8_sheet_15 rfl (by decide) (by decide) ?_
      refine sr_icmp_le (pc' := 20) (tgt := 22) dX8_sheet_17 rfl rfl (fun c17 => ?_) (fun c17 => ?_)
      · refine sr_iload_n (i := 3) (pc' := 23) dX8_sheet_22 rfl rfl rfl ?_
        refine sr_if_ge (pc' := 26) (tgt := 29) dX8_sheet_23 rfl rfl (fun c23 => ?_) (fun c23 => ?_)
        · refine sr_aload_n (i := 0) (pc' := 30) dX8_sheet_29 rfl rfl rfl ?_
          refine sr_getR (k := 9) (b := 57) (pc' := 33) cls_X8 dX8_sheet_30 rfl s88_0 rfl (by decide) w_58 ?_
          refine sr_iload_n (i := 1) (pc' := 34) dX8_sheet_33 rfl rfl rfl ?_
          refine sr_iload_n (i := 2) (pc' := 35) dX8_sheet_34 rfl rfl rfl ?_
          refine sr_iload_n (i := 3) (pc' := 36) dX8_sheet_35 rfl rfl rfl ?_
          refine sr_callVN3_M (pc' := 39) (she_make_sp x1 x2 x3 μ) dX8_sheet_36 rfl mg_X6_make mi_X6_make (Or.inl ⟨6, _, TX6, 4, s88_57, rfl⟩) ⟨Nat.le_of_ble_eq_true rfl, Nat.le_of_ble_eq_true rfl⟩ w_216 (Nat.le_of_ble_eq_true rfl) (fun μ3 hμ3 => ?_)
          refine sr_iconst (pc' := 40) dX8_sheet_39 rfl (by decide) ?_
          exact sr_iretI dX8_sheet_40 rfl rfl
        · refine sr_bipush (pc' := 28) dX8_sheet_26 rfl (by decide) (by decide) ?_
          exact sr_iretI dX8_sheet_28 rfl rfl
      · refine sr_iconst (pc' := 21) dX8_sheet_20 rfl (by decide) ?_
        exact sr_iretI dX8_sheet_21 rfl rfl
def ww_shoe   (x1 x2 : Int) (μ : Mem) : Option (Int × Mem) := (roa_hasCart 1 μ x1).bind fun u1 => if u1 = 0 then (some ((-1), μ)) else ((ww_isWidth μ x2).bind fun u2 => if u2 = 0 then (some ((-1), μ)) else ((roa_part 1 μ x1 0).bind fun u3 => if u3 = 3 then (some ((-2), μ)) else ((pla_drop μ).bind fun μ4 => (roa_swapPart 1 x1 1 x2 μ4).bind fun u5 => some (u5.1, u5.2))))
theorem ww_shoe_sp {l : Launch} {G : Nv}   (x1 x2 : Int) (μ : Mem) : SP l G S88 mX8_shoe [vR 0, vI x1, vI x2] μ (ww_shoe x1 x2 μ) jIM := by
  refine sp_go (lv := [some (vR 0), some (vI x1), some (vI x2)]) pn_X8 (Nat.le_of_ble_eq_true rfl) rfl ?_
  unfold ww_shoe
  refine sr_aload_n (i := 0) (pc' := 1) dX8_shoe_0 rfl rfl rfl ?_
  refine sr_getR (k := 0) (b := 1) (pc' := 4) cls_X8 dX8_shoe_1 rfl s88_0 rfl (by decide) w_19 ?_
  refine sr_iload_n (i := 1) (pc' := 5) dX8_shoe_4 rfl rfl rfl ?_
  refine sr_callVN1_I (pc' := 8) (roa_hasCart_sp isRoad_1 x1 μ) dX8_shoe_5 rfl mg_X4_hasCart mi_X4_hasCart (Or.inl ⟨4, _, TX4, 12, isRoad_1.1, rfl⟩) ⟨Nat.le_of_ble_eq_true rfl, Nat.le_of_ble_eq_true rfl⟩ w_42 (Nat.le_of_ble_eq_true rfl) (fun u1 hu1 hcu1 hzu1 => ?_)
  refine sr_if_eq (pc' := 11) (tgt := 18) dX8_shoe_8 rfl rfl (fun c8 => ?_) (fun c8 => ?_)
  · refine sr_iconst (pc' := 19) dX8_shoe_18 rfl (by decide) ?_
    exact sr_iretI dX8_shoe_19 rfl rfl
  · refine sr_iload_n (i := 2) (pc' := 12) dX8_shoe_11 rfl rfl rfl ?_
    refine sr_callS1_I (pc' := 15) (ww_isWidth_sp x2 μ) dX8_shoe_12 rfl mg_X8_isWidth ms_X8_isWidth ⟨Nat.le_of_ble_eq_true rfl, Nat.le_of_ble_eq_true rfl⟩ w_114 (Nat.le_of_ble_eq_true rfl) (fun u2 hu2 hcu2 hzu2 => ?_)
    refine sr_if_ne (pc' := 18) (tgt := 20) dX8_shoe_15 rfl rfl (fun c15 => ?_) (fun c15 => ?_)
    · refine sr_iconst (pc' := 19) dX8_shoe_18 rfl (by decide) ?_
      exact sr_iretI dX8_shoe_19 rfl rfl
    · refine sr_aload_n (i := 0) (pc' := 21) dX8_shoe_20 rfl rfl rfl ?_
      refine sr_getR (k := 0) (b := 1) (pc' := 24) cls_X8 dX8_shoe_21 rfl s88_0 rfl (by decide) w_19 ?_
      refine sr_iload_n (i := 1) (pc' := 25) dX8_shoe_24 rfl rfl rfl ?_
      refine sr_iconst (pc' := 26) dX8_shoe_25 rfl (by decide) ?_
      refine sr_callVN2_I (pc' := 29) (roa_part_sp isRoad_1 x1 0 μ) dX8_shoe_26 rfl mg_X4_part mi_X4_part (Or.inl ⟨4, _, TX4, 12, isRoad_1.1, rfl⟩) ⟨Nat.le_of_ble_eq_true rfl, Nat.le_of_ble_eq_true rfl⟩ w_45 (Nat.le_of_ble_eq_true rfl) (fun u3 hu3 hcu3 hzu3 => ?_)
      refine sr_iconst (pc' := 30) dX8_shoe_29 rfl (by decide) ?_
      refine sr_icmp_ne (pc' := 33) (tgt := 36) dX8_shoe_30 rfl rfl (fun c30 => ?_) (fun c30 => ?_)
      · refine sr_bipush (pc' := 35) dX8_shoe_33 rfl (by decide) (by decide) ?_
        exact sr_iretI dX8_shoe_35 rfl rfl
      · refine sr_aload_n (i := 0) (pc' := 37) dX8_shoe_36 rfl rfl rfl ?_
        refine sr_getR (k := 6) (b := 46) (pc' := 40) cls_X8 dX8_shoe_37 rfl s88_0 rfl (by decide) w_22 ?_
        refine sr_callVN0_M (pc' := 43) (pla_drop_sp μ) dX8_shoe_40 rfl mg_X2_drop mi_X2_drop (Or.inl ⟨2, _, TX2, 10, s88_46, rfl⟩) ⟨Nat.le_of_ble_eq_true rfl, Nat.le_of_ble_eq_true rfl⟩ w_23 (Nat.le_of_ble_eq_true rfl) (fun μ4 hμ4 => ?_)
        refine sr_aload_n (i := 0) (pc' := 44) dX8_shoe_43 rfl rfl rfl ?_
        refine sr_getR (k := 0) (b := 1) (pc' := 47) cls_X8 dX8_shoe_44 rfl s88_0 rfl (by decide) w_19 ?_
        refine sr_iload_n (i := 1) (pc' := 48) dX8_shoe_47 rfl rfl rfl ?_
        refine sr_iconst (pc' := 49) dX8_shoe_48 rfl (by decide) ?_
        refine sr_iload_n (i := 2) (pc' := 50) dX8_shoe_49 rfl rfl rfl ?_
        refine sr_callVN3_IM (pc' := 53) (roa_swapPart_sp isRoad_1 x1 1 x2 μ4) dX8_shoe_50 rfl mg_X4_swapPart mi_X4_swapPart (Or.inl ⟨4, _, TX4, 12, isRoad_1.1, rfl⟩) ⟨Nat.le_of_ble_eq_true rfl, Nat.le_of_ble_eq_true rfl⟩ w_136 (Nat.le_of_ble_eq_true rfl) (fun u5 hu5 hcu5 hzu5 => ?_)
        exact sr_iretI dX8_shoe_53 rfl rfl
def roa_reset (r : Nat)  (μ : Mem) : Option (Mem) := (ww_wipe (r + 1) 21 (-4) μ).bind fun μ1 => (ww_wipe (r + 2) 21 (-4) μ1).bind fun μ2 => (ww_wipe (r + 3) 63 0 μ2).bind fun μ3 => (ww_wipe (r + 4) 63 0 μ3).bind fun μ4 => (ww_wipe (r + 6) 8 0 μ4).bind fun μ5 => bnd (mset μ5 r 7 0) fun μ6 => bnd (mset μ6 r 8 0) fun μ7 => bnd (mset μ7 r 9 10) fun μ8 => bnd (mset μ8 r 10 0) fun μ9 => bnd (mset μ9 r 11 0) fun μ10 => some μ10
theorem roa_reset_sp {l : Launch} {G : Nv} {Sh : Shp} {r : Nat} (hr : IsRoad Sh r) (μ : Mem) : SP l G Sh mX4_reset [vR r] μ (roa_reset r μ) jM := by
  refine sp_go (lv := [some (vR r)]) pn_X4 (Nat.le_of_ble_eq_true rfl) rfl ?_
  unfold roa_reset
  refine sr_aload_n (i := 0) (pc' := 1) dX4_reset_0 rfl rfl rfl ?_
  refine sr_getR (k := 0) (b := (r + 1)) (pc' := 4) cls_X4 dX4_reset_1 rfl hr.1 rfl (by decide) w_2 ?_
  refine sr_bipush (pc' := 6) dX4_reset_4 rfl (by decide) (by decide) ?_
  refine sr_callSN2_M (pc' := 9) (ww_wipe_sp hr.2.1 (by decide) (-4) μ) dX4_reset_6 rfl mg_X8_wipe ms_X8_wipe ⟨Nat.le_of_ble_eq_true rfl, Nat.le_of_ble_eq_true rfl⟩ w_217 (Nat.le_of_ble_eq_true rfl) (fun μ1 hμ1 => ?_)
  refine sr_aload_n (i := 0) (pc' := 10) dX4_reset_9 rfl rfl rfl ?_
  refine sr_getR (k := 1) (b := (r + 2)) (pc' := 13) cls_X4 dX4_reset_10 rfl hr.1 rfl (by decide) w_4 ?_
  refine sr_bipush (pc' := 15) dX4_reset_13 rfl (by decide) (by decide) ?_
  refine sr_callSN2_M (pc' := 18) (ww_wipe_sp hr.2.2.1 (by decide) (-4) μ1) dX4_reset_15 rfl mg_X8_wipe ms_X8_wipe ⟨Nat.le_of_ble_eq_true rfl, Nat.le_of_ble_eq_true rfl⟩ w_217 (Nat.le_of_ble_eq_true rfl) (fun μ2 hμ2 => ?_)
  refine sr_aload_n (i := 0) (pc' := 19) dX4_reset_18 rfl rfl rfl ?_
  refine sr_getR (k := 2) (b := (r + 3)) (pc' := 22) cls_X4 dX4_reset_19 rfl hr.1 rfl (by decide) w_5 ?_
  refine sr_iconst (pc' := 23) dX4_reset_22 rfl (by decide) ?_
  refine sr_callSN2_M (pc' := 26) (ww_wipe_sp hr.2.2.2.1 (by decide) 0 μ2) dX4_reset_23 rfl mg_X8_wipe ms_X8_wipe ⟨Nat.le_of_ble_eq_true rfl, Nat.le_of_ble_eq_true rfl⟩ w_217 (Nat.le_of_ble_eq_true rfl) (fun μ3 hμ3 => ?_)
  refine sr_aload_n (i := 0) (pc' := 27) dX4_reset_26 rfl rfl rfl ?_
  refine sr_getR (k := 3) (b := (r + 4)) (pc' := 30) cls_X4 dX4_reset_27 rfl hr.1 rfl (by decide) w_6 ?_
  refine sr_iconst (pc' := 31) dX4_reset_30 rfl (by decide) ?_
  refine sr_callSN2_M (pc' := 34) (ww_wipe_sp hr.2.2.2.2.1 (by decide) 0 μ3) dX4_reset_31 rfl mg_X8_wipe ms_X8_wipe ⟨Nat.le_of_ble_eq_true rfl, Nat.le_of_ble_eq_true rfl⟩ w_217 (Nat.le_of_ble_eq_true rfl) (fun μ4 hμ4 => ?_)
  refine sr_aload_n (i := 0) (pc' := 35) dX4_reset_34 rfl rfl rfl ?_
  refine sr_getR (k := 5) (b := (r + 6)) (pc' := 38) cls_X4 dX4_reset_35 rfl hr.1 rfl (by decide) w_8 ?_
  refine sr_iconst (pc' := 39) dX4_reset_38 rfl (by decide) ?_
  refine sr_callSN2_M (pc' := 42) (ww_wipe_sp hr.2.2.2.2.2.2.1 (by decide) 0 μ4) dX4_reset_39 rfl mg_X8_wipe ms_X8_wipe ⟨Nat.le_of_ble_eq_true rfl, Nat.le_of_ble_eq_true rfl⟩ w_217 (Nat.le_of_ble_eq_true rfl) (fun μ5 hμ5 => ?_)
  refine sr_aload_n (i := 0) (pc' := 43) dX4_reset_42 rfl rfl rfl ?_
  refine sr_iconst (pc' := 44) dX4_reset_43 rfl (by decide) ?_
  refine sr_putI (k := 7) (pc' := 47) cls_X4 dX4_reset_44 rfl hr.1 rfl (by decide) w_10 rfl rfl (fun μ6 hμ6 => ?_)
  refine sr_aload_n (i := 0) (pc' := 48) dX4_reset_47 rfl rfl rfl ?_
  refine sr_lconst (x := 0) (pc' := 49) dX4_reset_48 rfl (by decide) rfl ?_
  refine sr_putL (k := 8) (pc' := 52) cls_X4 dX4_reset_49 rfl hr.1 rfl (by decide) w_11 rfl rfl (fun μ7 hμ7 => ?_)
  refine sr_aload_n (i := 0) (pc' := 53) dX4_reset_52 rfl rfl rfl ?_
  refine sr_bipush (pc' := 55) dX4_reset_53 rfl (by decide) (by decide) ?_
  refine sr_putI (k := 9) (pc' := 58) cls_X4 dX4_reset_55 rfl hr.1 rfl (by decide) w_12 rfl rfl (fun μ8 hμ8 => ?_)
  refine sr_aload_n (i := 0) (pc' := 59) dX4_reset_58 rfl rfl rfl ?_
  refine sr_iconst (pc' := 60) dX4_reset_59 rfl (by decide) ?_
  refine sr_putI (k := 10) (pc' := 63) cls_X4 dX4_reset_60 rfl hr.1 rfl (by decide) w_13 rfl rfl (fun μ9 hμ9 => ?_)
  refine sr_aload_n (i := 0) (pc' := 64) dX4_reset_63 rfl rfl rfl ?_
  refine sr_iconst (pc' := 65) dX4_reset_64 rfl (by decide) ?_
  refine sr_putI (k := 11) (pc' := 68) cls_X4 dX4_reset_65 rfl hr.1 rfl (by decide) w_14 rfl rfl (fun μ10 hμ10 => ?_)
  exact sr_ret dX4_reset_68 rfl rfl
def rea_byteAt (μ : Mem)  (x1 : Int) : Option (Int) := if x1 < 0 then (some 0) else (if (μ 25 1) ≤ x1 then (some 0) else (if 400 ≤ x1 then (some 0) else ((ld μ 26 400 x1).bind fun v1 => some v1)))
theorem rea_byteAt_sp {l : Launch} {G : Nv}   (x1 : Int) (μ : Mem) : SP l G S88 mX3_byteAt [vR 25, vI x1] μ (rea_byteAt μ x1) (jI μ) := by
  refine sp_go (lv := [some (vR 25), some (vI x1)]) pn_X3 (Nat.le_of_ble_eq_true rfl) rfl ?_
  unfold rea_byteAt
  refine sr_iload_n (i := 1) (pc' := 1) dX3_byteAt_0 rfl rfl rfl ?_
  refine sr_if_lt (pc' := 4) (tgt := 30) dX3_byteAt_1 rfl rfl (fun c1 => ?_) (fun c1 => ?_)
  · refine sr_iconst (pc' := 31) dX3_byteAt_30 rfl (by decide) ?_
    exact sr_iretI dX3_byteAt_31 rfl rfl
  · refine sr_iload_n (i := 1) (pc' := 5) dX3_byteAt_4 rfl rfl rfl ?_
    refine sr_aload_n (i := 0) (pc' := 6) dX3_byteAt_5 rfl rfl rfl ?_
    refine sr_getI (k := 1) (pc' := 9) cls_X3 dX3_byteAt_6 rfl s88_25 rfl (by decide) w_122 ?_
    refine sr_icmp_ge (pc' := 12) (tgt := 30) dX3_byteAt_9 rfl rfl (fun c9 => ?_) (fun c9 => ?_)
    · refine sr_iconst (pc' := 31) dX3_byteAt_30 rfl (by decide) ?_
      exact sr_iretI dX3_byteAt_31 rfl rfl
    · refine sr_iload_n (i := 1) (pc' := 13) dX3_byteAt_12 rfl rfl rfl ?_
      refine sr_aload_n (i := 0) (pc' := 14) dX3_byteAt_13 rfl rfl rfl ?_
      refine sr_getR (k := 0) (b := 26) (pc' := 17) cls_X3 dX3_byteAt_14 rfl s88_25 rfl (by decide) w_123 ?_
      refine sr_alen1 (pc' := 18) dX3_byteAt_17 rfl s88_26 (by decide) ?_
      refine sr_icmp_ge (pc' := 21) (tgt := 30) dX3_byteAt_18 rfl rfl (fun c18 => ?_) (fun c18 => ?_)
      · refine sr_iconst (pc' := 31) dX3_byteAt_30 rfl (by decide) ?_
        exact sr_iretI dX3_byteAt_31 rfl rfl
      · refine sr_aload_n (i := 0) (pc' := 22) dX3_byteAt_21 rfl rfl rfl ?_
        refine sr_getR (k := 0) (b := 26) (pc' := 25) cls_X3 dX3_byteAt_22 rfl s88_25 rfl (by decide) w_123 ?_
        refine sr_iload_n (i := 1) (pc' := 26) dX3_byteAt_25 rfl rfl rfl ?_
        refine sr_bald (pc' := 27) dX3_byteAt_26 rfl s88_26 (by decide) (fun v1 hv1 hv1a hv1b => ?_)
        refine sr_goto (pc' := 31) dX3_byteAt_27 rfl ?_
        exact sr_iretI dX3_byteAt_31 rfl rfl
def rea_sortAt_58 (μ : Mem)  (x2 : Int) : Option (Int) := if x2 = 59 then (some 3) else (some 4)
theorem rea_sortAt_58_s {l : Launch} {G : Nv}   (μ : Mem)   : ∀ (x2 : Int), SR l G S88 mX3_sortAt (rea_sortAt_58 μ x2) (jI μ) 58 [none, none, some (vI x2)] [] μ := by
  intro x2
  unfold rea_sortAt_58
  refine sr_iload_n (i := 2) (pc' := 59) dX3_sortAt_58 rfl rfl rfl ?_
  refine sr_bipush (pc' := 61) dX3_sortAt_59 rfl (by decide) (by decide) ?_
  refine sr_icmp_ne (pc' := 64) (tgt := 68) dX3_sortAt_61 rfl rfl (fun c61 => ?_) (fun c61 => ?_)
  · refine sr_iconst (pc' := 65) dX3_sortAt_64 rfl (by decide) ?_
    refine sr_goto (pc' := 69) dX3_sortAt_65 rfl ?_
    exact sr_iretI dX3_sortAt_69 rfl rfl
  · refine sr_iconst (pc' := 69) dX3_sortAt_68 rfl (by decide) ?_
    exact sr_iretI dX3_sortAt_69 rfl rfl
def rea_sortAt_44 (μ : Mem)  (x2 : Int) : Option (Int) := if x2 < 48 then (rea_sortAt_58 μ x2) else (if 57 < x2 then (rea_sortAt_58 μ x2) else (some 2))
theorem rea_sortAt_44_s {l : Launch} {G : Nv}   (μ : Mem)   : ∀ (x2 : Int), SR l G S88 mX3_sortAt (rea_sortAt_44 μ x2) (jI μ) 44 [none, none, some (vI x2)] [] μ := by
  intro x2
  unfold rea_sortAt_44
  refine sr_iload_n (i := 2) (pc' := 45) dX3_sortAt_44 rfl rfl rfl ?_
  refine sr_bipush (pc' := 47) dX3_sortAt_45 rfl (by decide) (by decide) ?_
  refine sr_icmp_lt (pc' := 50) (tgt := 58) dX3_sortAt_47 rfl rfl (fun c47 => ?_) (fun c47 => ?_)
  · exact rea_sortAt_58_s μ x2
  · refine sr_iload_n (i := 2) (pc' := 51) dX3_sortAt_50 rfl rfl rfl ?_
    refine sr_bipush (pc' := 53) dX3_sortAt_51 rfl (by decide) (by decide) ?_
    refine sr_icmp_gt (pc' := 56) (tgt := 58) dX3_sortAt_53 rfl rfl (fun c53 => ?_) (fun c53 => ?_)
    · exact rea_sortAt_58_s μ x2
    · refine sr_iconst (pc' := 57) dX3_sortAt_56 rfl (by decide) ?_
      exact sr_iretI dX3_sortAt_57 rfl rfl
def rea_sortAt (μ : Mem)  (x1 : Int) : Option (Int) := if x1 < 0 then (some 0) else (if (μ 25 1) ≤ x1 then (some 0) else (if x1 < 400 then ((ld μ 26 400 x1).bind fun v1 => if v1 < 97 then (rea_sortAt_44 μ v1) else (if 122 < v1 then (rea_sortAt_44 μ v1) else (some 1))) else (some 0)))
theorem rea_sortAt_sp {l : Launch} {G : Nv}   (x1 : Int) (μ : Mem) : SP l G S88 mX3_sortAt [vR 25, vI x1] μ (rea_sortAt μ x1) (jI μ) := by
  refine sp_go (lv := [some (vR 25), some (vI x1), none]) pn_X3 (Nat.le_of_ble_eq_true rfl) rfl ?_
  unfold rea_sortAt
  refine sr_iload_n (i := 1) (pc' := 1) dX3_sortAt_0 rfl rfl rfl ?_
  refine sr_if_lt (pc' := 4) (tgt := 21) dX3_sortAt_1 rfl rfl (fun c1 => ?_) (fun c1 => ?_)
  · refine sr_iconst (pc' := 22) dX3_sortAt_21 rfl (by decide) ?_
    exact sr_iretI dX3_sortAt_22 rfl rfl
  · refine sr_iload_n (i := 1) (pc' := 5) dX3_sortAt_4 rfl rfl rfl ?_
    refine sr_aload_n (i := 0) (pc' := 6) dX3_sortAt_5 rfl rfl rfl ?_
    refine sr_getI (k := 1) (pc' := 9) cls_X3 dX3_sortAt_6 rfl s88_25 rfl (by decide) w_122 ?_
    refine sr_icmp_ge (pc' := 12) (tgt := 21) dX3_sortAt_9 rfl rfl (fun c9 => ?_) (fun c9 => ?_)
    · refine sr_iconst (pc' := 22) dX3_sortAt_21 rfl (by decide) ?_
      exact sr_iretI dX3_sortAt_22 rfl rfl
    · refine sr_iload_n (i := 1) (pc' := 13) dX3_sortAt_12 rfl rfl rfl ?_
      refine sr_aload_n (i := 0) (pc' := 14) dX3_sortAt_13 rfl rfl rfl ?_
      refine sr_getR (k := 0) (b := 26) (pc' := 17) cls_X3 dX3_sortAt_14 rfl s88_25 rfl (by decide) w_123 ?_
      refine sr_alen1 (pc' := 18) dX3_sortAt_17 rfl s88_26 (by decide) ?_
      refine sr_icmp_lt (pc' := 21) (tgt := 23) dX3_sortAt_18 rfl rfl (fun c18 => ?_) (fun c18 => ?_)
      · refine sr_aload_n (i := 0) (pc' := 24) dX3_sortAt_23 rfl rfl rfl ?_
        refine sr_getR (k := 0) (b := 26) (pc' := 27) cls_X3 dX3_sortAt_24 rfl s88_25 rfl (by decide) w_123 ?_
        refine sr_iload_n (i := 1) (pc' := 28) dX3_sortAt_27 rfl rfl rfl ?_
        refine sr_bald (pc' := 29) dX3_sortAt_28 rfl s88_26 (by decide) (fun v1 hv1 hv1a hv1b => ?_)
        refine sr_istore_n (i := 2) (lv' := [some (vR 25), some (vI x1), some (vI v1)]) (pc' := 30) dX3_sortAt_29 rfl rfl (by decide) rfl ?_
        refine sr_iload_n (i := 2) (pc' := 31) dX3_sortAt_30 rfl rfl rfl ?_
        refine sr_bipush (pc' := 33) dX3_sortAt_31 rfl (by decide) (by decide) ?_
        refine sr_icmp_lt (pc' := 36) (tgt := 44) dX3_sortAt_33 rfl rfl (fun c33 => ?_) (fun c33 => ?_)
        · refine sr_fgt (fgt_n (fgt_n (fgt_s fgt_nil))) ?_
          exact rea_sortAt_44_s μ v1
        · refine sr_iload_n (i := 2) (pc' := 37) dX3_sortAt_36 rfl rfl rfl ?_
          refine sr_bipush (pc' := 39) dX3_sortAt_37 rfl (by decide) (by decide) ?_
          refine sr_icmp_gt (pc' := 42) (tgt := 44) dX3_sortAt_39 rfl rfl (fun c39 => ?_) (fun c39 => ?_)
          · refine sr_fgt (fgt_n (fgt_n (fgt_s fgt_nil))) ?_
            exact rea_sortAt_44_s μ v1
          · refine sr_iconst (pc' := 43) dX3_sortAt_42 rfl (by decide) ?_
            exact sr_iretI dX3_sortAt_43 rfl rfl
      · refine sr_iconst (pc' := 22) dX3_sortAt_21 rfl (by decide) ?_
        exact sr_iretI dX3_sortAt_22 rfl rfl
def rea_refuse   (x1 x2 : Int) (μ : Mem) : Option (Int × Mem) := bnd (mset μ 25 3 x1) fun μ1 => bnd (mset μ1 25 4 x2) fun μ2 => some (0, μ2)
theorem rea_refuse_sp {l : Launch} {G : Nv}   (x1 x2 : Int) (μ : Mem) : SP l G S88 mX3_refuse [vR 25, vI x1, vI x2] μ (rea_refuse x1 x2 μ) jIM := by
  refine sp_go (lv := [some (vR 25), some (vI x1), some (vI x2)]) pn_X3 (Nat.le_of_ble_eq_true rfl) rfl ?_
  unfold rea_refuse
  refine sr_aload_n (i := 0) (pc' := 1) dX3_refuse_0 rfl rfl rfl ?_
  refine sr_iload_n (i := 1) (pc' := 2) dX3_refuse_1 rfl rfl rfl ?_
  refine sr_putI (k := 3) (pc' := 5) cls_X3 dX3_refuse_2 rfl s88_25 rfl (by decide) w_218 rfl rfl (fun μ1 hμ1 => ?_)
  refine sr_aload_n (i := 0) (pc' := 6) dX3_refuse_5 rfl rfl rfl ?_
  refine sr_iload_n (i := 2) (pc' := 7) dX3_refuse_6 rfl rfl rfl ?_
  refine sr_putI (k := 4) (pc' := 10) cls_X3 dX3_refuse_7 rfl s88_25 rfl (by decide) w_219 rfl rfl (fun μ2 hμ2 => ?_)
  refine sr_iconst (pc' := 11) dX3_refuse_10 rfl (by decide) ?_
  exact sr_iretZ dX3_refuse_11 rfl (Or.inl rfl) rfl
def rea_takeToken_91  (k130 : Mem → Option (Int × Mem)) : Nat → Mem → Option (Int × Mem)
  | 0, _ => none
  | n + 1, μ => if (μ 25 1) ≤ (μ 25 7) then (k130 μ) else ((rea_sortAt μ (μ 25 7)).bind fun u1 => if u1 = (μ 25 5) then (bnd (mset μ 25 7 (wI ((μ 25 7) + 1))) fun μ2 => rea_takeToken_91 k130 n μ2) else (k130 μ))
theorem rea_takeToken_91_s {l : Launch} {G : Nv}   {k130 : Mem → Option (Int × Mem)} (hk130 : ∀ (μ : Mem) , SR l G S88 mX3_takeToken (k130 μ) jIM 130 [some (vR 25), none] [] μ) : ∀ (n : Nat) (μ : Mem), SR l G S88 mX3_takeToken (rea_takeToken_91 k130 n μ) jIM 91 [some (vR 25), none] [] μ := by
  intro n
  induction n with
  | zero => intro μ; exact sr_none
  | succ n ih =>
    intro μ
    rw [rea_takeToken_91.eq_2]
    refine sr_aload_n (i := 0) (pc' := 92) dX3_takeToken_91 rfl rfl rfl ?_
    refine sr_getI (k := 7) (pc' := 95) cls_X3 dX3_takeToken_92 rfl s88_25 rfl (by decide) w_220 ?_
    refine sr_aload_n (i := 0) (pc' := 96) dX3_takeToken_95 rfl rfl rfl ?_
    refine sr_getI (k := 1) (pc' := 99) cls_X3 dX3_takeToken_96 rfl s88_25 rfl (by decide) w_122 ?_
    refine sr_icmp_ge (pc' := 102) (tgt := 130) dX3_takeToken_99 rfl rfl (fun c99 => ?_) (fun c99 => ?_)
    · exact hk130 μ
    · refine sr_aload_n (i := 0) (pc' := 103) dX3_takeToken_102 rfl rfl rfl ?_
      refine sr_aload_n (i := 0) (pc' := 104) dX3_takeToken_103 rfl rfl rfl ?_
      refine sr_getI (k := 7) (pc' := 107) cls_X3 dX3_takeToken_104 rfl s88_25 rfl (by decide) w_220 ?_
      refine sr_callV1_I (pc' := 110) (rea_sortAt_sp (μ 25 7) μ) dX3_takeToken_107 rfl mg_X3_sortAt mi_X3_sortAt (Or.inl ⟨3, _, TX3, 12, s88_25, rfl⟩) ⟨Nat.le_of_ble_eq_true rfl, Nat.le_of_ble_eq_true rfl⟩ w_221 (Nat.le_of_ble_eq_true rfl) (fun u1 hu1 hcu1 hzu1 => ?_)
      refine sr_aload_n (i := 0) (pc' := 111) dX3_takeToken_110 rfl rfl rfl ?_
      refine sr_getI (k := 5) (pc' := 114) cls_X3 dX3_takeToken_111 rfl s88_25 rfl (by decide) w_222 ?_
      refine sr_icmp_ne (pc' := 117) (tgt := 130) dX3_takeToken_114 rfl rfl (fun c114 => ?_) (fun c114 => ?_)
      · refine sr_aload_n (i := 0) (pc' := 118) dX3_takeToken_117 rfl rfl rfl ?_
        refine sr_dup (pc' := 119) dX3_takeToken_118 rfl rfl ?_
        refine sr_getI (k := 7) (pc' := 122) cls_X3 dX3_takeToken_119 rfl s88_25 rfl (by decide) w_220 ?_
        refine sr_iconst (pc' := 123) dX3_takeToken_122 rfl (by decide) ?_
        refine sr_iadd (pc' := 124) dX3_takeToken_123 rfl ?_
        refine sr_putI (k := 7) (pc' := 127) cls_X3 dX3_takeToken_124 rfl s88_25 rfl (by decide) w_220 rfl rfl (fun μ2 hμ2 => ?_)
        refine sr_goto (pc' := 91) dX3_takeToken_127 rfl ?_
        exact ih μ2
      · exact hk130 μ
def rea_takeToken_164   (s0 : Int) (μ : Mem) : Option (Int × Mem) := if s0 = 0 then ((rea_refuse 1 (μ 25 6) μ).bind fun u1 => if u1.1 = 0 then (some (0, u1.2)) else (some (1, u1.2))) else (some (1, μ))
theorem rea_takeToken_164_s {l : Launch} {G : Nv}     : ∀ (s0 : Int) (μ : Mem), SR l G S88 mX3_takeToken (rea_takeToken_164 s0 μ) jIM 164 [some (vR 25), none] [vI s0] μ := by
  intro s0 μ
  unfold rea_takeToken_164
  refine sr_istore_n (i := 1) (lv' := [some (vR 25), some (vI s0)]) (pc' := 165) dX3_takeToken_164 rfl rfl (by decide) rfl ?_
  refine sr_iload_n (i := 1) (pc' := 166) dX3_takeToken_165 rfl rfl rfl ?_
  refine sr_if_ne (pc' := 169) (tgt := 181) dX3_takeToken_166 rfl rfl (fun c166 => ?_) (fun c166 => ?_)
  · refine sr_aload_n (i := 0) (pc' := 170) dX3_takeToken_169 rfl rfl rfl ?_
    refine sr_iconst (pc' := 171) dX3_takeToken_170 rfl (by decide) ?_
    refine sr_aload_n (i := 0) (pc' := 172) dX3_takeToken_171 rfl rfl rfl ?_
    refine sr_getI (k := 6) (pc' := 175) cls_X3 dX3_takeToken_172 rfl s88_25 rfl (by decide) w_223 ?_
    refine sr_callV2_IM (pc' := 178) (rea_refuse_sp 1 (μ 25 6) μ) dX3_takeToken_175 rfl mg_X3_refuse mi_X3_refuse (Or.inl ⟨3, _, TX3, 12, s88_25, rfl⟩) ⟨Nat.le_of_ble_eq_true rfl, Nat.le_of_ble_eq_true rfl⟩ w_224 (Nat.le_of_ble_eq_true rfl) (fun u1 hu1 hcu1 hzu1 => ?_)
    refine sr_if_eq (pc' := 181) (tgt := 185) dX3_takeToken_178 rfl rfl (fun c178 => ?_) (fun c178 => ?_)
    · refine sr_iconst (pc' := 186) dX3_takeToken_185 rfl (by decide) ?_
      exact sr_iretZ dX3_takeToken_186 rfl (Or.inl rfl) rfl
    · refine sr_iconst (pc' := 182) dX3_takeToken_181 rfl (by decide) ?_
      refine sr_goto (pc' := 186) dX3_takeToken_182 rfl ?_
      exact sr_iretZ dX3_takeToken_186 rfl (Or.inr rfl) rfl
  · refine sr_iconst (pc' := 182) dX3_takeToken_181 rfl (by decide) ?_
    refine sr_goto (pc' := 186) dX3_takeToken_182 rfl ?_
    exact sr_iretZ dX3_takeToken_186 rfl (Or.inr rfl) rfl
def rea_takeToken_130   (μ : Mem) : Option (Int × Mem) := if (μ 25 5) = 4 then (rea_takeToken_164 0 μ) else (if (μ 25 5) = 2 then (if 2 < (wI ((μ 25 7) - (μ 25 6))) then (rea_takeToken_164 0 μ) else (rea_takeToken_164 1 μ)) else (rea_takeToken_164 1 μ))
theorem rea_takeToken_130_s {l : Launch} {G : Nv}     : ∀ (μ : Mem), SR l G S88 mX3_takeToken (rea_takeToken_130 μ) jIM 130 [some (vR 25), none] [] μ := by
  intro μ
  unfold rea_takeToken_130
  refine sr_aload_n (i := 0) (pc' := 131) dX3_takeToken_130 rfl rfl rfl ?_
  refine sr_getI (k := 5) (pc' := 134) cls_X3 dX3_takeToken_131 rfl s88_25 rfl (by decide) w_222 ?_
  refine sr_iconst (pc' := 135) dX3_takeToken_134 rfl (by decide) ?_
  refine sr_icmp_eq (pc' := 138) (tgt := 163) dX3_takeToken_135 rfl rfl (fun c135 => ?_) (fun c135 => ?_)
  · refine sr_iconst (pc' := 164) dX3_takeToken_163 rfl (by decide) ?_
    exact rea_takeToken_164_s 0 μ
  · refine sr_aload_n (i := 0) (pc' := 139) dX3_takeToken_138 rfl rfl rfl ?_
    refine sr_getI (k := 5) (pc' := 142) cls_X3 dX3_takeToken_139 rfl s88_25 rfl (by decide) w_222 ?_
    refine sr_iconst (pc' := 143) dX3_takeToken_142 rfl (by decide) ?_
    refine sr_icmp_ne (pc' := 146) (tgt := 159) dX3_takeToken_143 rfl rfl (fun c143 => ?_) (fun c143 => ?_)
    · refine sr_aload_n (i := 0) (pc' := 147) dX3_takeToken_146 rfl rfl rfl ?_
      refine sr_getI (k := 7) (pc' := 150) cls_X3 dX3_takeToken_147 rfl s88_25 rfl (by decide) w_220 ?_
      refine sr_aload_n (i := 0) (pc' := 151) dX3_takeToken_150 rfl rfl rfl ?_
      refine sr_getI (k := 6) (pc' := 154) cls_X3 dX3_takeToken_151 rfl s88_25 rfl (by decide) w_223 ?_
      refine sr_isub (pc' := 155) dX3_takeToken_154 rfl ?_
      refine sr_iconst (pc' := 156) dX3_takeToken_155 rfl (by decide) ?_
      refine sr_icmp_gt (pc' := 159) (tgt := 163) dX3_takeToken_156 rfl rfl (fun c156 => ?_) (fun c156 => ?_)
      · refine sr_iconst (pc' := 164) dX3_takeToken_163 rfl (by decide) ?_
        exact rea_takeToken_164_s 0 μ
      · refine sr_iconst (pc' := 160) dX3_takeToken_159 rfl (by decide) ?_
        refine sr_goto (pc' := 164) dX3_takeToken_160 rfl ?_
        exact rea_takeToken_164_s 1 μ
    · refine sr_iconst (pc' := 160) dX3_takeToken_159 rfl (by decide) ?_
      refine sr_goto (pc' := 164) dX3_takeToken_160 rfl ?_
      exact rea_takeToken_164_s 1 μ
def rea_takeToken_75   (μ : Mem) : Option (Int × Mem) := if (μ 25 5) = 1 then (rea_takeToken_91 rea_takeToken_130 BIG μ) else (if (μ 25 5) = 2 then (rea_takeToken_91 rea_takeToken_130 BIG μ) else (rea_takeToken_130 μ))
theorem rea_takeToken_75_s {l : Launch} {G : Nv}     : ∀ (μ : Mem), SR l G S88 mX3_takeToken (rea_takeToken_75 μ) jIM 75 [some (vR 25), none] [] μ := by
  intro μ
  unfold rea_takeToken_75
  refine sr_aload_n (i := 0) (pc' := 76) dX3_takeToken_75 rfl rfl rfl ?_
  refine sr_getI (k := 5) (pc' := 79) cls_X3 dX3_takeToken_76 rfl s88_25 rfl (by decide) w_222 ?_
  refine sr_iconst (pc' := 80) dX3_takeToken_79 rfl (by decide) ?_
  refine sr_icmp_eq (pc' := 83) (tgt := 91) dX3_takeToken_80 rfl rfl (fun c80 => ?_) (fun c80 => ?_)
  · exact rea_takeToken_91_s rea_takeToken_130_s BIG μ
  · refine sr_aload_n (i := 0) (pc' := 84) dX3_takeToken_83 rfl rfl rfl ?_
    refine sr_getI (k := 5) (pc' := 87) cls_X3 dX3_takeToken_84 rfl s88_25 rfl (by decide) w_222 ?_
    refine sr_iconst (pc' := 88) dX3_takeToken_87 rfl (by decide) ?_
    refine sr_icmp_ne (pc' := 91) (tgt := 130) dX3_takeToken_88 rfl rfl (fun c88 => ?_) (fun c88 => ?_)
    · exact rea_takeToken_91_s rea_takeToken_130_s BIG μ
    · exact rea_takeToken_130_s μ
def rea_takeToken_37   (μ : Mem) : Option (Int × Mem) := bnd (mset μ 25 6 (μ 25 7)) fun μ1 => (rea_sortAt μ1 (μ1 25 7)).bind fun u2 => bnd (mset μ1 25 5 u2) fun μ3 => if (μ3 25 5) = 3 then (bnd (mset μ3 25 7 (wI ((μ3 25 7) + 1))) fun μ4 => rea_takeToken_75 μ4) else (rea_takeToken_75 μ3)
theorem rea_takeToken_37_s {l : Launch} {G : Nv}     : ∀ (μ : Mem), SR l G S88 mX3_takeToken (rea_takeToken_37 μ) jIM 37 [some (vR 25), none] [] μ := by
  intro μ
  unfold rea_takeToken_37
  refine sr_aload_n (i := 0) (pc' := 38) dX3_takeToken_37 rfl rfl rfl ?_
  refine sr_aload_n (i := 0) (pc' := 39) dX3_takeToken_38 rfl rfl rfl ?_
  refine sr_getI (k := 7) (pc' := 42) cls_X3 dX3_takeToken_39 rfl s88_25 rfl (by decide) w_220 ?_
  refine sr_putI (k := 6) (pc' := 45) cls_X3 dX3_takeToken_42 rfl s88_25 rfl (by decide) w_223 rfl rfl (fun μ1 hμ1 => ?_)
  refine sr_aload_n (i := 0) (pc' := 46) dX3_takeToken_45 rfl rfl rfl ?_
  refine sr_aload_n (i := 0) (pc' := 47) dX3_takeToken_46 rfl rfl rfl ?_
  refine sr_aload_n (i := 0) (pc' := 48) dX3_takeToken_47 rfl rfl rfl ?_
  refine sr_getI (k := 7) (pc' := 51) cls_X3 dX3_takeToken_48 rfl s88_25 rfl (by decide) w_220 ?_
  refine sr_callV1_I (pc' := 54) (rea_sortAt_sp (μ1 25 7) μ1) dX3_takeToken_51 rfl mg_X3_sortAt mi_X3_sortAt (Or.inl ⟨3, _, TX3, 12, s88_25, rfl⟩) ⟨Nat.le_of_ble_eq_true rfl, Nat.le_of_ble_eq_true rfl⟩ w_221 (Nat.le_of_ble_eq_true rfl) (fun u2 hu2 hcu2 hzu2 => ?_)
  refine sr_putI (k := 5) (pc' := 57) cls_X3 dX3_takeToken_54 rfl s88_25 rfl (by decide) w_222 rfl rfl (fun μ3 hμ3 => ?_)
  refine sr_aload_n (i := 0) (pc' := 58) dX3_takeToken_57 rfl rfl rfl ?_
  refine sr_getI (k := 5) (pc' := 61) cls_X3 dX3_takeToken_58 rfl s88_25 rfl (by decide) w_222 ?_
  refine sr_iconst (pc' := 62) dX3_takeToken_61 rfl (by decide) ?_
  refine sr_icmp_ne (pc' := 65) (tgt := 75) dX3_takeToken_62 rfl rfl (fun c62 => ?_) (fun c62 => ?_)
  · refine sr_aload_n (i := 0) (pc' := 66) dX3_takeToken_65 rfl rfl rfl ?_
    refine sr_dup (pc' := 67) dX3_takeToken_66 rfl rfl ?_
    refine sr_getI (k := 7) (pc' := 70) cls_X3 dX3_takeToken_67 rfl s88_25 rfl (by decide) w_220 ?_
    refine sr_iconst (pc' := 71) dX3_takeToken_70 rfl (by decide) ?_
    refine sr_iadd (pc' := 72) dX3_takeToken_71 rfl ?_
    refine sr_putI (k := 7) (pc' := 75) cls_X3 dX3_takeToken_72 rfl s88_25 rfl (by decide) w_220 rfl rfl (fun μ4 hμ4 => ?_)
    exact rea_takeToken_75_s μ4
  · exact rea_takeToken_75_s μ3
def rea_takeToken_0   : Nat → Mem → Option (Int × Mem)
  | 0, _ => none
  | n + 1, μ => if (μ 25 1) ≤ (μ 25 7) then (rea_takeToken_37 μ) else ((rea_byteAt μ (μ 25 7)).bind fun u1 => if u1 = 32 then (bnd (mset μ 25 7 (wI ((μ 25 7) + 1))) fun μ2 => rea_takeToken_0 n μ2) else (rea_takeToken_37 μ))
theorem rea_takeToken_0_s {l : Launch} {G : Nv}     : ∀ (n : Nat) (μ : Mem), SR l G S88 mX3_takeToken (rea_takeToken_0 n μ) jIM 0 [some (vR 25), none] [] μ := by
  intro n
  induction n with
  | zero => intro μ; exact sr_none
  | succ n ih =>
    intro μ
    rw [rea_takeToken_0.eq_2]
    refine sr_aload_n (i := 0) (pc' := 1) dX3_takeToken_0 rfl rfl rfl ?_
    refine sr_getI (k := 7) (pc' := 4) cls_X3 dX3_takeToken_1 rfl s88_25 rfl (by decide) w_220 ?_
    refine sr_aload_n (i := 0) (pc' := 5) dX3_takeToken_4 rfl rfl rfl ?_
    refine sr_getI (k := 1) (pc' := 8) cls_X3 dX3_takeToken_5 rfl s88_25 rfl (by decide) w_122 ?_
    refine sr_icmp_ge (pc' := 11) (tgt := 37) dX3_takeToken_8 rfl rfl (fun c8 => ?_) (fun c8 => ?_)
    · exact rea_takeToken_37_s μ
    · refine sr_aload_n (i := 0) (pc' := 12) dX3_takeToken_11 rfl rfl rfl ?_
      refine sr_aload_n (i := 0) (pc' := 13) dX3_takeToken_12 rfl rfl rfl ?_
      refine sr_getI (k := 7) (pc' := 16) cls_X3 dX3_takeToken_13 rfl s88_25 rfl (by decide) w_220 ?_
      refine sr_callV1_I (pc' := 19) (rea_byteAt_sp (μ 25 7) μ) dX3_takeToken_16 rfl mg_X3_byteAt mi_X3_byteAt (Or.inl ⟨3, _, TX3, 12, s88_25, rfl⟩) ⟨Nat.le_of_ble_eq_true rfl, Nat.le_of_ble_eq_true rfl⟩ w_225 (Nat.le_of_ble_eq_true rfl) (fun u1 hu1 hcu1 hzu1 => ?_)
      refine sr_bipush (pc' := 21) dX3_takeToken_19 rfl (by decide) (by decide) ?_
      refine sr_icmp_ne (pc' := 24) (tgt := 37) dX3_takeToken_21 rfl rfl (fun c21 => ?_) (fun c21 => ?_)
      · refine sr_aload_n (i := 0) (pc' := 25) dX3_takeToken_24 rfl rfl rfl ?_
        refine sr_dup (pc' := 26) dX3_takeToken_25 rfl rfl ?_
        refine sr_getI (k := 7) (pc' := 29) cls_X3 dX3_takeToken_26 rfl s88_25 rfl (by decide) w_220 ?_
        refine sr_iconst (pc' := 30) dX3_takeToken_29 rfl (by decide) ?_
        refine sr_iadd (pc' := 31) dX3_takeToken_30 rfl ?_
        refine sr_putI (k := 7) (pc' := 34) cls_X3 dX3_takeToken_31 rfl s88_25 rfl (by decide) w_220 rfl rfl (fun μ2 hμ2 => ?_)
        refine sr_goto (pc' := 0) dX3_takeToken_34 rfl ?_
        exact ih μ2
      · exact rea_takeToken_37_s μ
def rea_takeToken   (μ : Mem) : Option (Int × Mem) := rea_takeToken_0 BIG μ
theorem rea_takeToken_sp {l : Launch} {G : Nv}   (μ : Mem) : SP l G S88 mX3_takeToken [vR 25] μ (rea_takeToken μ) jIM := by
  refine sp_go (lv := [some (vR 25), none]) pn_X3 (Nat.le_of_ble_eq_true rfl) rfl ?_
  unfold rea_takeToken
  exact rea_takeToken_0_s BIG μ
def rea_isWhole_73  (k27 : Int → Mem → Option (Int × Mem)) (x1 : Int) (μ : Mem) : Option (Int × Mem) := k27 (wI (x1 + 1)) μ
theorem rea_isWhole_73_s {l : Launch} {G : Nv}   {k27 : Int → Mem → Option (Int × Mem)} (hk27 : ∀ (x1 : Int) (μ : Mem) , SR l G S88 mX3_isWhole (k27 x1 μ) jIM 27 [some (vR 25), some (vI x1)] [] μ) : ∀ (x1 : Int) (μ : Mem), SR l G S88 mX3_isWhole (rea_isWhole_73 k27 x1 μ) jIM 73 [some (vR 25), some (vI x1)] [] μ := by
  intro x1 μ
  unfold rea_isWhole_73
  refine sr_iinc (lv' := [some (vR 25), some (vI (wI (x1 + 1)))]) (pc' := 76) dX3_isWhole_73 rfl (by decide) rfl rfl ?_
  refine sr_goto (pc' := 27) dX3_isWhole_76 rfl ?_
  exact hk27 (wI (x1 + 1)) μ
def rea_isWhole_27   : Nat → Int → Mem → Option (Int × Mem)
  | 0, _, _ => none
  | n + 1, x1, μ => if 63 ≤ x1 then (some (1, μ)) else (if (lCmp (lAnd (lShr (μ 25 10) x1) 1) 0) = 0 then (rea_isWhole_73 (rea_isWhole_27 n) x1 μ) else ((roa_hasRut 27 μ (iDiv x1 3) (iRem x1 3)).bind fun u1 => if u1 = 0 then ((rea_refuse 7 (μ 25 1) μ).bind fun u2 => some (u2.1, u2.2)) else (rea_isWhole_73 (rea_isWhole_27 n) x1 μ)))
theorem rea_isWhole_27_s {l : Launch} {G : Nv}     : ∀ (n : Nat) (x1 : Int) (μ : Mem), SR l G S88 mX3_isWhole (rea_isWhole_27 n x1 μ) jIM 27 [some (vR 25), some (vI x1)] [] μ := by
  intro n
  induction n with
  | zero => intro x1 μ; exact sr_none
  | succ n ih =>
    intro x1 μ
    rw [rea_isWhole_27.eq_2]
    refine sr_iload_n (i := 1) (pc' := 28) dX3_isWhole_27 rfl rfl rfl ?_
    refine sr_bipush (pc' := 30) dX3_isWhole_28 rfl (by decide) (by decide) ?_
    refine sr_icmp_ge (pc' := 33) (tgt := 79) dX3_isWhole_30 rfl rfl (fun c30 => ?_) (fun c30 => ?_)
    · refine sr_iconst (pc' := 80) dX3_isWhole_79 rfl (by decide) ?_
      exact sr_iretZ dX3_isWhole_80 rfl (Or.inr rfl) rfl
    · refine sr_aload_n (i := 0) (pc' := 34) dX3_isWhole_33 rfl rfl rfl ?_
      refine sr_getL (k := 10) (pc' := 37) cls_X3 dX3_isWhole_34 rfl s88_25 rfl (by decide) w_226 ?_
      refine sr_iload_n (i := 1) (pc' := 38) dX3_isWhole_37 rfl rfl rfl ?_
      refine sr_lshr (pc' := 39) dX3_isWhole_38 rfl ?_
      refine sr_lconst (x := 1) (pc' := 40) dX3_isWhole_39 rfl (by decide) rfl ?_
      refine sr_land (pc' := 41) dX3_isWhole_40 rfl ?_
      refine sr_lconst (x := 0) (pc' := 42) dX3_isWhole_41 rfl (by decide) rfl ?_
      refine sr_lcmp (pc' := 43) dX3_isWhole_42 rfl ?_
      refine sr_if_eq (pc' := 46) (tgt := 73) dX3_isWhole_43 rfl rfl (fun c43 => ?_) (fun c43 => ?_)
      · exact rea_isWhole_73_s ih x1 μ
      · refine sr_aload_n (i := 0) (pc' := 47) dX3_isWhole_46 rfl rfl rfl ?_
        refine sr_getR (k := 2) (b := 27) (pc' := 50) cls_X3 dX3_isWhole_47 rfl s88_25 rfl (by decide) w_227 ?_
        refine sr_iload_n (i := 1) (pc' := 51) dX3_isWhole_50 rfl rfl rfl ?_
        refine sr_iconst (pc' := 52) dX3_isWhole_51 rfl (by decide) ?_
        refine sr_idiv (pc' := 53) dX3_isWhole_52 rfl (by decide) ?_
        refine sr_iload_n (i := 1) (pc' := 54) dX3_isWhole_53 rfl rfl rfl ?_
        refine sr_iconst (pc' := 55) dX3_isWhole_54 rfl (by decide) ?_
        refine sr_irem (pc' := 56) dX3_isWhole_55 rfl (by decide) ?_
        refine sr_callVN2_I (pc' := 59) (roa_hasRut_sp isRoad_27 (iDiv x1 3) (iRem x1 3) μ) dX3_isWhole_56 rfl mg_X4_hasRut mi_X4_hasRut (Or.inl ⟨4, _, TX4, 12, isRoad_27.1, rfl⟩) ⟨Nat.le_of_ble_eq_true rfl, Nat.le_of_ble_eq_true rfl⟩ w_228 (Nat.le_of_ble_eq_true rfl) (fun u1 hu1 hcu1 hzu1 => ?_)
        refine sr_if_ne (pc' := 62) (tgt := 73) dX3_isWhole_59 rfl rfl (fun c59 => ?_) (fun c59 => ?_)
        · refine sr_aload_n (i := 0) (pc' := 63) dX3_isWhole_62 rfl rfl rfl ?_
          refine sr_bipush (pc' := 65) dX3_isWhole_63 rfl (by decide) (by decide) ?_
          refine sr_aload_n (i := 0) (pc' := 66) dX3_isWhole_65 rfl rfl rfl ?_
          refine sr_getI (k := 1) (pc' := 69) cls_X3 dX3_isWhole_66 rfl s88_25 rfl (by decide) w_122 ?_
          refine sr_callV2_IM (pc' := 72) (rea_refuse_sp 7 (μ 25 1) μ) dX3_isWhole_69 rfl mg_X3_refuse mi_X3_refuse (Or.inl ⟨3, _, TX3, 12, s88_25, rfl⟩) ⟨Nat.le_of_ble_eq_true rfl, Nat.le_of_ble_eq_true rfl⟩ w_224 (Nat.le_of_ble_eq_true rfl) (fun u2 hu2 hcu2 hzu2 => ?_)
          exact sr_iretZ dX3_isWhole_72 rfl (hzu2 rfl)  rfl
        · exact rea_isWhole_73_s ih x1 μ
def rea_isWhole   (μ : Mem) : Option (Int × Mem) := if (μ 25 11) ≤ (μ 27 9) then (rea_isWhole_27 BIG 0 μ) else ((rea_refuse 6 (μ 25 1) μ).bind fun u1 => some (u1.1, u1.2))
theorem rea_isWhole_sp {l : Launch} {G : Nv}   (μ : Mem) : SP l G S88 mX3_isWhole [vR 25] μ (rea_isWhole μ) jIM := by
  refine sp_go (lv := [some (vR 25), none]) pn_X3 (Nat.le_of_ble_eq_true rfl) rfl ?_
  unfold rea_isWhole
  refine sr_aload_n (i := 0) (pc' := 1) dX3_isWhole_0 rfl rfl rfl ?_
  refine sr_getI (k := 11) (pc' := 4) cls_X3 dX3_isWhole_1 rfl s88_25 rfl (by decide) w_229 ?_
  refine sr_aload_n (i := 0) (pc' := 5) dX3_isWhole_4 rfl rfl rfl ?_
  refine sr_getR (k := 2) (b := 27) (pc' := 8) cls_X3 dX3_isWhole_5 rfl s88_25 rfl (by decide) w_227 ?_
  refine sr_getI (k := 9) (pc' := 11) cls_X4 dX3_isWhole_8 rfl isRoad_27.1 rfl (by decide) w_230 ?_
  refine sr_icmp_le (pc' := 14) (tgt := 25) dX3_isWhole_11 rfl rfl (fun c11 => ?_) (fun c11 => ?_)
  · refine sr_iconst (pc' := 26) dX3_isWhole_25 rfl (by decide) ?_
    refine sr_istore_n (i := 1) (lv' := [some (vR 25), some (vI 0)]) (pc' := 27) dX3_isWhole_26 rfl rfl (by decide) rfl ?_
    exact rea_isWhole_27_s BIG 0 μ
  · refine sr_aload_n (i := 0) (pc' := 15) dX3_isWhole_14 rfl rfl rfl ?_
    refine sr_bipush (pc' := 17) dX3_isWhole_15 rfl (by decide) (by decide) ?_
    refine sr_aload_n (i := 0) (pc' := 18) dX3_isWhole_17 rfl rfl rfl ?_
    refine sr_getI (k := 1) (pc' := 21) cls_X3 dX3_isWhole_18 rfl s88_25 rfl (by decide) w_122 ?_
    refine sr_callV2_IM (pc' := 24) (rea_refuse_sp 6 (μ 25 1) μ) dX3_isWhole_21 rfl mg_X3_refuse mi_X3_refuse (Or.inl ⟨3, _, TX3, 12, s88_25, rfl⟩) ⟨Nat.le_of_ble_eq_true rfl, Nat.le_of_ble_eq_true rfl⟩ w_224 (Nat.le_of_ble_eq_true rfl) (fun u1 hu1 hcu1 hzu1 => ?_)
    exact sr_iretZ dX3_isWhole_24 rfl (hzu1 rfl)  rfl
def str_coder (j : Nat) (μ : Mem)  : Option (Int) := if (1 : Int) = 0 then (some 1) else (some 0)
theorem str_coder_sp {l : Launch} {G : Nv} {Sh : Shp} {j : Nat} (hj : j < 14) (μ : Mem) : SP l G Sh mJ0_coder_7d493 [vR (100 + j)] μ (str_coder j μ) (jI μ) := by
  refine sp_go (lv := [some (vR (100 + j))]) pn_J0 (Nat.le_of_ble_eq_true rfl) rfl ?_
  unfold str_coder
  refine sr_gets (v := vI 1) (pc' := 3) dJ0_coder_7d493_0 rfl (List.mem_of_getElem? (i := 2) rfl) (show C32 1 by decide) w_231 ?_
  refine sr_if_eq (pc' := 6) (tgt := 13) dJ0_coder_7d493_3 rfl rfl (fun c3 => ?_) (fun c3 => ?_)
  · refine sr_iconst (pc' := 14) dJ0_coder_7d493_13 rfl (by decide) ?_
    exact sr_iret dJ0_coder_7d493_14 rfl rfl (fun h => by cases h) rfl
  · refine sr_aload_n (i := 0) (pc' := 7) dJ0_coder_7d493_6 rfl rfl rfl ?_
    refine sr_scod (pc' := 10) dJ0_coder_7d493_7 rfl hj w_232 ?_
    refine sr_goto (pc' := 14) dJ0_coder_7d493_10 rfl ?_
    exact sr_iret dJ0_coder_7d493_14 rfl rfl (fun h => by cases h) rfl
def str_length (j : Nat) (μ : Mem)  : Option (Int) := (str_coder j μ).bind fun u1 => some (iShr ((roTx.getD j []).length : Int) u1)
theorem str_length_sp {l : Launch} {G : Nv} {Sh : Shp} {j : Nat} (hj : j < 14) (μ : Mem) : SP l G Sh mJ0_length_8abf5 [vR (100 + j)] μ (str_length j μ) (jI μ) := by
  refine sp_go (lv := [some (vR (100 + j))]) pn_J0 (Nat.le_of_ble_eq_true rfl) rfl ?_
  unfold str_length
  refine sr_aload_n (i := 0) (pc' := 1) dJ0_length_8abf5_0 rfl rfl rfl ?_
  refine sr_sval (pc' := 4) dJ0_length_8abf5_1 rfl hj w_233 ?_
  refine sr_tblen (pc' := 5) dJ0_length_8abf5_4 rfl hj ?_
  refine sr_aload_n (i := 0) (pc' := 6) dJ0_length_8abf5_5 rfl rfl rfl ?_
  refine sr_callV0_I (pc' := 9) (str_coder_sp hj μ) dJ0_length_8abf5_6 rfl mg_J0_coder_7d493 mi_J0_coder_7d493 (Or.inr ⟨rfl, _, hj, rfl⟩) ⟨Nat.le_of_ble_eq_true rfl, Nat.le_of_ble_eq_true rfl⟩ w_234 (Nat.le_of_ble_eq_true rfl) (fun u1 hu1 hcu1 hzu1 => ?_)
  refine sr_ishr (pc' := 10) dJ0_length_8abf5_9 rfl ?_
  exact sr_iretI dJ0_length_8abf5_10 rfl rfl
def str_isLatin1 (j : Nat) (μ : Mem)  : Option (Int) := if (1 : Int) = 0 then (some 0) else (if (0 : Int) = 0 then (some 1) else (some 0))
theorem str_isLatin1_sp {l : Launch} {G : Nv} {Sh : Shp} {j : Nat} (hj : j < 14) (μ : Mem) : SP l G Sh mJ0_isLatin1_aae02 [vR (100 + j)] μ (str_isLatin1 j μ) (jI μ) := by
  refine sp_go (lv := [some (vR (100 + j))]) pn_J0 (Nat.le_of_ble_eq_true rfl) rfl ?_
  unfold str_isLatin1
  refine sr_gets (v := vI 1) (pc' := 3) dJ0_isLatin1_aae02_0 rfl (List.mem_of_getElem? (i := 2) rfl) (show C32 1 by decide) w_231 ?_
  refine sr_if_eq (pc' := 6) (tgt := 17) dJ0_isLatin1_aae02_3 rfl rfl (fun c3 => ?_) (fun c3 => ?_)
  · refine sr_iconst (pc' := 18) dJ0_isLatin1_aae02_17 rfl (by decide) ?_
    exact sr_iretZ dJ0_isLatin1_aae02_18 rfl (Or.inl rfl) rfl
  · refine sr_aload_n (i := 0) (pc' := 7) dJ0_isLatin1_aae02_6 rfl rfl rfl ?_
    refine sr_scod (pc' := 10) dJ0_isLatin1_aae02_7 rfl hj w_232 ?_
    refine sr_if_ne (pc' := 13) (tgt := 17) dJ0_isLatin1_aae02_10 rfl rfl (fun c10 => ?_) (fun c10 => ?_)
    · refine sr_iconst (pc' := 14) dJ0_isLatin1_aae02_13 rfl (by decide) ?_
      refine sr_goto (pc' := 18) dJ0_isLatin1_aae02_14 rfl ?_
      exact sr_iretZ dJ0_isLatin1_aae02_18 rfl (Or.inr rfl) rfl
    · refine sr_iconst (pc' := 18) dJ0_isLatin1_aae02_17 rfl (by decide) ?_
      exact sr_iretZ dJ0_isLatin1_aae02_18 rfl (Or.inl rfl) rfl
def prc_checkIndex (μ : Mem)  (x0 x1 : Int) : Option (Int) := if x0 < 0 then (none) else (if x0 < x1 then (some x0) else (none))
theorem prc_checkIndex_sp {l : Launch} {G : Nv} {Sh : Shp}   (x0 x1 : Int) (μ : Mem) : SP l G Sh mJ3_checkIndex_8e157 [vI x0, vI x1, vN] μ (prc_checkIndex μ x0 x1) (jI μ) := by
  refine sp_go (lv := [some (vI x0), some (vI x1), some (vN)]) pn_J3 (Nat.le_of_ble_eq_true rfl) rfl ?_
  unfold prc_checkIndex
  refine sr_iload_n (i := 0) (pc' := 1) dJ3_checkIndex_8e157_0 rfl rfl rfl ?_
  refine sr_if_lt (pc' := 4) (tgt := 9) dJ3_checkIndex_8e157_1 rfl rfl (fun c1 => ?_) (fun c1 => ?_)
  · exact sr_none
  · refine sr_iload_n (i := 0) (pc' := 5) dJ3_checkIndex_8e157_4 rfl rfl rfl ?_
    refine sr_iload_n (i := 1) (pc' := 6) dJ3_checkIndex_8e157_5 rfl rfl rfl ?_
    refine sr_icmp_lt (pc' := 9) (tgt := 16) dJ3_checkIndex_8e157_6 rfl rfl (fun c6 => ?_) (fun c6 => ?_)
    · refine sr_iload_n (i := 0) (pc' := 17) dJ3_checkIndex_8e157_16 rfl rfl rfl ?_
      exact sr_iretI dJ3_checkIndex_8e157_17 rfl rfl
    · exact sr_none
def str_checkIndex (μ : Mem)  (x0 x1 : Int) : Option (Unit) := (prc_checkIndex μ x0 x1).bind fun u1 => some ()
theorem str_checkIndex_sp {l : Launch} {G : Nv} {Sh : Shp}   (x0 x1 : Int) (μ : Mem) : SP l G Sh mJ0_checkIndex_df160 [vI x0, vI x1] μ (str_checkIndex μ x0 x1) (jU μ) := by
  refine sp_go (lv := [some (vI x0), some (vI x1)]) pn_J0 (Nat.le_of_ble_eq_true rfl) rfl ?_
  unfold str_checkIndex
  refine sr_iload_n (i := 0) (pc' := 1) dJ0_checkIndex_df160_0 rfl rfl rfl ?_
  refine sr_iload_n (i := 1) (pc' := 2) dJ0_checkIndex_df160_1 rfl rfl rfl ?_
  refine sr_gets (v := vN) (pc' := 5) dJ0_checkIndex_df160_2 rfl (List.mem_of_getElem? (i := 3) rfl) trivial w_235 ?_
  refine sr_callS3_I (pc' := 8) (prc_checkIndex_sp x0 x1 μ) dJ0_checkIndex_df160_5 rfl mg_J3_checkIndex_8e157 ms_J3_checkIndex_8e157 ⟨Nat.le_of_ble_eq_true rfl, Nat.le_of_ble_eq_true rfl⟩ w_236 (Nat.le_of_ble_eq_true rfl) (fun u1 hu1 hcu1 hzu1 => ?_)
  refine sr_pop (pc' := 9) dJ0_checkIndex_df160_8 rfl rfl ?_
  exact sr_ret dJ0_checkIndex_df160_9 rfl rfl
def lat_charAt (j : Nat) (μ : Mem)  (x1 : Int) : Option (Int) := (str_checkIndex μ x1 ((roTx.getD j []).length : Int)).bind fun u1 => (ldT (roTx.getD j []) x1).bind fun v2 => some (i2c (iAnd v2 255))
theorem lat_charAt_sp {l : Launch} {G : Nv} {Sh : Shp} {j : Nat} (hj : j < 14) (x1 : Int) (μ : Mem) : SP l G Sh mJ1_charAt_3b067 [vR (120 + j), vI x1] μ (lat_charAt j μ x1) (jI μ) := by
  refine sp_go (lv := [some (vR (120 + j)), some (vI x1)]) pn_J1 (Nat.le_of_ble_eq_true rfl) rfl ?_
  unfold lat_charAt
  refine sr_iload_n (i := 1) (pc' := 1) dJ1_charAt_3b067_0 rfl rfl rfl ?_
  refine sr_aload_n (i := 0) (pc' := 2) dJ1_charAt_3b067_1 rfl rfl rfl ?_
  refine sr_tblen (pc' := 3) dJ1_charAt_3b067_2 rfl hj ?_
  refine sr_callS2_U (pc' := 6) (str_checkIndex_sp x1 ((roTx.getD j []).length : Int) μ) dJ1_charAt_3b067_3 rfl mg_J0_checkIndex_df160 ms_J0_checkIndex_df160 ⟨Nat.le_of_ble_eq_true rfl, Nat.le_of_ble_eq_true rfl⟩ w_237 (Nat.le_of_ble_eq_true rfl) (fun u1 hu1 => ?_)
  refine sr_aload_n (i := 0) (pc' := 7) dJ1_charAt_3b067_6 rfl rfl rfl ?_
  refine sr_iload_n (i := 1) (pc' := 8) dJ1_charAt_3b067_7 rfl rfl rfl ?_
  refine sr_tbb (pc' := 9) dJ1_charAt_3b067_8 rfl hj (fun v2 => ?_)
  refine sr_sipush (pc' := 12) dJ1_charAt_3b067_9 rfl (by decide) (by decide) ?_
  refine sr_iand (pc' := 13) dJ1_charAt_3b067_12 rfl ?_
  refine sr_i2c (pc' := 14) dJ1_charAt_3b067_13 rfl ?_
  exact sr_iretC2 dJ1_charAt_3b067_14 rfl rfl
def str_charAt (j : Nat) (μ : Mem)  (x1 : Int) : Option (Int) := (str_isLatin1 j μ).bind fun u1 => if u1 = 0 then (none) else ((lat_charAt j μ x1).bind fun u2 => some (cN u2))
theorem str_charAt_sp {l : Launch} {G : Nv} {Sh : Shp} {j : Nat} (hj : j < 14) (x1 : Int) (μ : Mem) : SP l G Sh mJ0_charAt_5068e [vR (100 + j), vI x1] μ (str_charAt j μ x1) (jI μ) := by
  refine sp_go (lv := [some (vR (100 + j)), some (vI x1)]) pn_J0 (Nat.le_of_ble_eq_true rfl) rfl ?_
  unfold str_charAt
  refine sr_aload_n (i := 0) (pc' := 1) dJ0_charAt_5068e_0 rfl rfl rfl ?_
  refine sr_callV0_I (pc' := 4) (str_isLatin1_sp hj μ) dJ0_charAt_5068e_1 rfl mg_J0_isLatin1_aae02 mi_J0_isLatin1_aae02 (Or.inr ⟨rfl, _, hj, rfl⟩) ⟨Nat.le_of_ble_eq_true rfl, Nat.le_of_ble_eq_true rfl⟩ w_238 (Nat.le_of_ble_eq_true rfl) (fun u1 hu1 hcu1 hzu1 => ?_)
  refine sr_if_eq (pc' := 7) (tgt := 16) dJ0_charAt_5068e_4 rfl rfl (fun c4 => ?_) (fun c4 => ?_)
  · exact sr_none
  · refine sr_aload_n (i := 0) (pc' := 8) dJ0_charAt_5068e_7 rfl rfl rfl ?_
    refine sr_sval (pc' := 11) dJ0_charAt_5068e_8 rfl hj w_233 ?_
    refine sr_iload_n (i := 1) (pc' := 12) dJ0_charAt_5068e_11 rfl rfl rfl ?_
    refine sr_callS2_I (pc' := 15) (lat_charAt_sp hj x1 μ) dJ0_charAt_5068e_12 rfl mg_J1_charAt_3b067 ms_J1_charAt_3b067 ⟨Nat.le_of_ble_eq_true rfl, Nat.le_of_ble_eq_true rfl⟩ w_239 (Nat.le_of_ble_eq_true rfl) (fun u2 hu2 hcu2 hzu2 => ?_)
    exact sr_iretC dJ0_charAt_5068e_15 rfl rfl
def rea_isName_28 (j : Nat) (μ : Mem)  : Nat → Int → Option (Int)
  | 0, _ => none
  | n + 1, x2 => (str_length j μ).bind fun u1 => if u1 ≤ x2 then (some 1) else ((rea_byteAt μ (wI ((μ 25 6) + x2))).bind fun u2 => (str_charAt j μ x2).bind fun u3 => if u2 = u3 then (rea_isName_28 j μ n (wI (x2 + 1))) else (some 0))
theorem rea_isName_28_s {l : Launch} {G : Nv} {j : Nat} (hj : j < 14) (μ : Mem)   : ∀ (n : Nat) (x2 : Int), SR l G S88 mX3_isName (rea_isName_28 j μ n x2) (jI μ) 28 [some (vR 25), some (vR (100 + j)), some (vI x2)] [] μ := by
  intro n
  induction n with
  | zero => intro x2; exact sr_none
  | succ n ih =>
    intro x2
    rw [rea_isName_28.eq_2]
    refine sr_iload_n (i := 2) (pc' := 29) dX3_isName_28 rfl rfl rfl ?_
    refine sr_aload_n (i := 1) (pc' := 30) dX3_isName_29 rfl rfl rfl ?_
    refine sr_callV0_I (pc' := 33) (str_length_sp hj μ) dX3_isName_30 rfl mg_J0_length_8abf5 mi_J0_length_8abf5 (Or.inr ⟨rfl, _, hj, rfl⟩) ⟨Nat.le_of_ble_eq_true rfl, Nat.le_of_ble_eq_true rfl⟩ w_240 (Nat.le_of_ble_eq_true rfl) (fun u1 hu1 hcu1 hzu1 => ?_)
    refine sr_icmp_ge (pc' := 36) (tgt := 62) dX3_isName_33 rfl rfl (fun c33 => ?_) (fun c33 => ?_)
    · refine sr_iconst (pc' := 63) dX3_isName_62 rfl (by decide) ?_
      exact sr_iretZ dX3_isName_63 rfl (Or.inr rfl) rfl
    · refine sr_aload_n (i := 0) (pc' := 37) dX3_isName_36 rfl rfl rfl ?_
      refine sr_aload_n (i := 0) (pc' := 38) dX3_isName_37 rfl rfl rfl ?_
      refine sr_getI (k := 6) (pc' := 41) cls_X3 dX3_isName_38 rfl s88_25 rfl (by decide) w_223 ?_
      refine sr_iload_n (i := 2) (pc' := 42) dX3_isName_41 rfl rfl rfl ?_
      refine sr_iadd (pc' := 43) dX3_isName_42 rfl ?_
      refine sr_callV1_I (pc' := 46) (rea_byteAt_sp (wI ((μ 25 6) + x2)) μ) dX3_isName_43 rfl mg_X3_byteAt mi_X3_byteAt (Or.inl ⟨3, _, TX3, 12, s88_25, rfl⟩) ⟨Nat.le_of_ble_eq_true rfl, Nat.le_of_ble_eq_true rfl⟩ w_225 (Nat.le_of_ble_eq_true rfl) (fun u2 hu2 hcu2 hzu2 => ?_)
      refine sr_aload_n (i := 1) (pc' := 47) dX3_isName_46 rfl rfl rfl ?_
      refine sr_iload_n (i := 2) (pc' := 48) dX3_isName_47 rfl rfl rfl ?_
      refine sr_callV1_I (pc' := 51) (str_charAt_sp hj x2 μ) dX3_isName_48 rfl mg_J0_charAt_5068e mi_J0_charAt_5068e (Or.inr ⟨rfl, _, hj, rfl⟩) ⟨Nat.le_of_ble_eq_true rfl, Nat.le_of_ble_eq_true rfl⟩ w_241 (Nat.le_of_ble_eq_true rfl) (fun u3 hu3 hcu3 hzu3 => ?_)
      refine sr_icmp_eq (pc' := 54) (tgt := 56) dX3_isName_51 rfl rfl (fun c51 => ?_) (fun c51 => ?_)
      · refine sr_iinc (lv' := [some (vR 25), some (vR (100 + j)), some (vI (wI (x2 + 1)))]) (pc' := 59) dX3_isName_56 rfl (by decide) rfl rfl ?_
        refine sr_goto (pc' := 28) dX3_isName_59 rfl ?_
        exact ih (wI (x2 + 1))
      · refine sr_iconst (pc' := 55) dX3_isName_54 rfl (by decide) ?_
        exact sr_iretZ dX3_isName_55 rfl (Or.inl rfl) rfl
def rea_isName (j : Nat) (μ : Mem)  : Option (Int) := if (μ 25 5) = 1 then ((str_length j μ).bind fun u1 => if (wI ((μ 25 7) - (μ 25 6))) = u1 then (rea_isName_28 j μ BIG 0) else (some 0)) else (some 0)
theorem rea_isName_sp {l : Launch} {G : Nv} {j : Nat} (hj : j < 14) (μ : Mem) : SP l G S88 mX3_isName [vR 25, vR (100 + j)] μ (rea_isName j μ) (jI μ) := by
  refine sp_go (lv := [some (vR 25), some (vR (100 + j)), none]) pn_X3 (Nat.le_of_ble_eq_true rfl) rfl ?_
  unfold rea_isName
  refine sr_aload_n (i := 0) (pc' := 1) dX3_isName_0 rfl rfl rfl ?_
  refine sr_getI (k := 5) (pc' := 4) cls_X3 dX3_isName_1 rfl s88_25 rfl (by decide) w_222 ?_
  refine sr_iconst (pc' := 5) dX3_isName_4 rfl (by decide) ?_
  refine sr_icmp_ne (pc' := 8) (tgt := 24) dX3_isName_5 rfl rfl (fun c5 => ?_) (fun c5 => ?_)
  · refine sr_aload_n (i := 0) (pc' := 9) dX3_isName_8 rfl rfl rfl ?_
    refine sr_getI (k := 7) (pc' := 12) cls_X3 dX3_isName_9 rfl s88_25 rfl (by decide) w_220 ?_
    refine sr_aload_n (i := 0) (pc' := 13) dX3_isName_12 rfl rfl rfl ?_
    refine sr_getI (k := 6) (pc' := 16) cls_X3 dX3_isName_13 rfl s88_25 rfl (by decide) w_223 ?_
    refine sr_isub (pc' := 17) dX3_isName_16 rfl ?_
    refine sr_aload_n (i := 1) (pc' := 18) dX3_isName_17 rfl rfl rfl ?_
    refine sr_callV0_I (pc' := 21) (str_length_sp hj μ) dX3_isName_18 rfl mg_J0_length_8abf5 mi_J0_length_8abf5 (Or.inr ⟨rfl, _, hj, rfl⟩) ⟨Nat.le_of_ble_eq_true rfl, Nat.le_of_ble_eq_true rfl⟩ w_240 (Nat.le_of_ble_eq_true rfl) (fun u1 hu1 hcu1 hzu1 => ?_)
    refine sr_icmp_eq (pc' := 24) (tgt := 26) dX3_isName_21 rfl rfl (fun c21 => ?_) (fun c21 => ?_)
    · refine sr_iconst (pc' := 27) dX3_isName_26 rfl (by decide) ?_
      refine sr_istore_n (i := 2) (lv' := [some (vR 25), some (vR (100 + j)), some (vI 0)]) (pc' := 28) dX3_isName_27 rfl rfl (by decide) rfl ?_
      exact rea_isName_28_s hj μ BIG 0
    · refine sr_iconst (pc' := 25) dX3_isName_24 rfl (by decide) ?_
      exact sr_iretZ dX3_isName_25 rfl (Or.inl rfl) rfl
  · refine sr_iconst (pc' := 25) dX3_isName_24 rfl (by decide) ?_
    exact sr_iretZ dX3_isName_25 rfl (Or.inl rfl) rfl
def rea_takeNumber_96  (k113 : Int → Int → Mem → Option (Int × Mem)) (x4 : Int) (μ : Mem) : Option (Int × Mem) := (rea_refuse 3 (μ 25 6) μ).bind fun u1 => if u1.1 = 0 then (k113 x4 0 u1.2) else (k113 x4 1 u1.2)
theorem rea_takeNumber_96_s {l : Launch} {G : Nv}   {k113 : Int → Int → Mem → Option (Int × Mem)} (hk113 : ∀ (x4 s0 : Int) (μ : Mem) , SR l G S88 mX3_takeNumber (k113 x4 s0 μ) jIM 113 [none, none, none, none, some (vI x4), none] [vI s0] μ) : ∀ (x4 : Int) (μ : Mem), SR l G S88 mX3_takeNumber (rea_takeNumber_96 k113 x4 μ) jIM 96 [some (vR 25), none, none, none, some (vI x4), none] [] μ := by
  intro x4 μ
  unfold rea_takeNumber_96
  refine sr_aload_n (i := 0) (pc' := 97) dX3_takeNumber_96 rfl rfl rfl ?_
  refine sr_iconst (pc' := 98) dX3_takeNumber_97 rfl (by decide) ?_
  refine sr_aload_n (i := 0) (pc' := 99) dX3_takeNumber_98 rfl rfl rfl ?_
  refine sr_getI (k := 6) (pc' := 102) cls_X3 dX3_takeNumber_99 rfl s88_25 rfl (by decide) w_223 ?_
  refine sr_callV2_IM (pc' := 105) (rea_refuse_sp 3 (μ 25 6) μ) dX3_takeNumber_102 rfl mg_X3_refuse mi_X3_refuse (Or.inl ⟨3, _, TX3, 12, s88_25, rfl⟩) ⟨Nat.le_of_ble_eq_true rfl, Nat.le_of_ble_eq_true rfl⟩ w_224 (Nat.le_of_ble_eq_true rfl) (fun u1 hu1 hcu1 hzu1 => ?_)
  refine sr_if_eq (pc' := 108) (tgt := 112) dX3_takeNumber_105 rfl rfl (fun c105 => ?_) (fun c105 => ?_)
  · refine sr_iconst (pc' := 113) dX3_takeNumber_112 rfl (by decide) ?_
    refine sr_fgt (fgt_n (fgt_s (fgt_s (fgt_s (fgt_s (fgt_s fgt_nil)))))) ?_
    exact hk113 x4 0 u1.2
  · refine sr_iconst (pc' := 109) dX3_takeNumber_108 rfl (by decide) ?_
    refine sr_goto (pc' := 113) dX3_takeNumber_109 rfl ?_
    refine sr_fgt (fgt_n (fgt_s (fgt_s (fgt_s (fgt_s (fgt_s fgt_nil)))))) ?_
    exact hk113 x4 1 u1.2
def rea_takeNumber_113   (x4 s0 : Int) (μ : Mem) : Option (Int × Mem) := if s0 = 0 then (some ((-1), μ)) else (some (x4, μ))
theorem rea_takeNumber_113_s {l : Launch} {G : Nv}     : ∀ (x4 s0 : Int) (μ : Mem), SR l G S88 mX3_takeNumber (rea_takeNumber_113 x4 s0 μ) jIM 113 [none, none, none, none, some (vI x4), none] [vI s0] μ := by
  intro x4 s0 μ
  unfold rea_takeNumber_113
  refine sr_istore (lv' := [none, none, none, none, some (vI x4), some (vI s0)]) (pc' := 115) dX3_takeNumber_113 rfl (by decide) rfl ?_
  refine sr_iload (pc' := 117) dX3_takeNumber_115 rfl rfl ?_
  refine sr_if_eq (pc' := 120) (tgt := 125) dX3_takeNumber_117 rfl rfl (fun c117 => ?_) (fun c117 => ?_)
  · refine sr_iconst (pc' := 126) dX3_takeNumber_125 rfl (by decide) ?_
    exact sr_iretI dX3_takeNumber_126 rfl rfl
  · refine sr_iload (pc' := 122) dX3_takeNumber_120 rfl rfl ?_
    refine sr_goto (pc' := 126) dX3_takeNumber_122 rfl ?_
    exact sr_iretI dX3_takeNumber_126 rfl rfl
def rea_takeNumber_80   (x1 x2 x3 x4 : Int) (μ : Mem) : Option (Int × Mem) := if x3 = 0 then (rea_takeNumber_113 x4 0 μ) else (if x4 < x1 then (rea_takeNumber_96 rea_takeNumber_113 x4 μ) else (if x4 ≤ x2 then (rea_takeNumber_113 x4 1 μ) else (rea_takeNumber_96 rea_takeNumber_113 x4 μ)))
theorem rea_takeNumber_80_s {l : Launch} {G : Nv}     : ∀ (x1 x2 x3 x4 : Int) (μ : Mem), SR l G S88 mX3_takeNumber (rea_takeNumber_80 x1 x2 x3 x4 μ) jIM 80 [some (vR 25), some (vI x1), some (vI x2), some (vI x3), some (vI x4), none] [] μ := by
  intro x1 x2 x3 x4 μ
  unfold rea_takeNumber_80
  refine sr_iload_n (i := 3) (pc' := 81) dX3_takeNumber_80 rfl rfl rfl ?_
  refine sr_if_eq (pc' := 84) (tgt := 112) dX3_takeNumber_81 rfl rfl (fun c81 => ?_) (fun c81 => ?_)
  · refine sr_iconst (pc' := 113) dX3_takeNumber_112 rfl (by decide) ?_
    refine sr_fgt (fgt_n (fgt_n (fgt_n (fgt_n (fgt_s (fgt_s fgt_nil)))))) ?_
    exact rea_takeNumber_113_s x4 0 μ
  · refine sr_iload (pc' := 86) dX3_takeNumber_84 rfl rfl ?_
    refine sr_iload_n (i := 1) (pc' := 87) dX3_takeNumber_86 rfl rfl rfl ?_
    refine sr_icmp_lt (pc' := 90) (tgt := 96) dX3_takeNumber_87 rfl rfl (fun c87 => ?_) (fun c87 => ?_)
    · refine sr_fgt (fgt_s (fgt_n (fgt_n (fgt_n (fgt_s (fgt_s fgt_nil)))))) ?_
      exact rea_takeNumber_96_s rea_takeNumber_113_s x4 μ
    · refine sr_iload (pc' := 92) dX3_takeNumber_90 rfl rfl ?_
      refine sr_iload_n (i := 2) (pc' := 93) dX3_takeNumber_92 rfl rfl rfl ?_
      refine sr_icmp_le (pc' := 96) (tgt := 108) dX3_takeNumber_93 rfl rfl (fun c93 => ?_) (fun c93 => ?_)
      · refine sr_iconst (pc' := 109) dX3_takeNumber_108 rfl (by decide) ?_
        refine sr_goto (pc' := 113) dX3_takeNumber_109 rfl ?_
        refine sr_fgt (fgt_n (fgt_n (fgt_n (fgt_n (fgt_s (fgt_s fgt_nil)))))) ?_
        exact rea_takeNumber_113_s x4 1 μ
      · refine sr_fgt (fgt_s (fgt_n (fgt_n (fgt_n (fgt_s (fgt_s fgt_nil)))))) ?_
        exact rea_takeNumber_96_s rea_takeNumber_113_s x4 μ
def rea_takeNumber_44   : Nat → Int → Int → Int → Int → Int → Mem → Option (Int × Mem)
  | 0, _, _, _, _, _, _ => none
  | n + 1, x1, x2, x3, x4, x5, μ => if x3 = 0 then (rea_takeNumber_80 x1 x2 x3 x4 μ) else (if (μ 25 7) ≤ x5 then (rea_takeNumber_80 x1 x2 x3 x4 μ) else ((rea_byteAt μ x5).bind fun u1 => bnd (wI ((wI ((wI (10 * x4)) + u1)) - 48)) fun v2 => rea_takeNumber_44 n x1 x2 x3 v2 (wI (x5 + 1)) μ))
theorem rea_takeNumber_44_s {l : Launch} {G : Nv}     : ∀ (n : Nat) (x1 x2 x3 x4 x5 : Int) (μ : Mem), SR l G S88 mX3_takeNumber (rea_takeNumber_44 n x1 x2 x3 x4 x5 μ) jIM 44 [some (vR 25), some (vI x1), some (vI x2), some (vI x3), some (vI x4), some (vI x5)] [] μ := by
  intro n
  induction n with
  | zero => intro x1 x2 x3 x4 x5 μ; exact sr_none
  | succ n ih =>
    intro x1 x2 x3 x4 x5 μ
    rw [rea_takeNumber_44.eq_2]
    refine sr_iload_n (i := 3) (pc' := 45) dX3_takeNumber_44 rfl rfl rfl ?_
    refine sr_if_eq (pc' := 48) (tgt := 80) dX3_takeNumber_45 rfl rfl (fun c45 => ?_) (fun c45 => ?_)
    · refine sr_fgt (fgt_s (fgt_s (fgt_s (fgt_s (fgt_s (fgt_n fgt_nil)))))) ?_
      exact rea_takeNumber_80_s x1 x2 x3 x4 μ
    · refine sr_iload (pc' := 50) dX3_takeNumber_48 rfl rfl ?_
      refine sr_aload_n (i := 0) (pc' := 51) dX3_takeNumber_50 rfl rfl rfl ?_
      refine sr_getI (k := 7) (pc' := 54) cls_X3 dX3_takeNumber_51 rfl s88_25 rfl (by decide) w_220 ?_
      refine sr_icmp_ge (pc' := 57) (tgt := 80) dX3_takeNumber_54 rfl rfl (fun c54 => ?_) (fun c54 => ?_)
      · refine sr_fgt (fgt_s (fgt_s (fgt_s (fgt_s (fgt_s (fgt_n fgt_nil)))))) ?_
        exact rea_takeNumber_80_s x1 x2 x3 x4 μ
      · refine sr_bipush (pc' := 59) dX3_takeNumber_57 rfl (by decide) (by decide) ?_
        refine sr_iload (pc' := 61) dX3_takeNumber_59 rfl rfl ?_
        refine sr_imul (pc' := 62) dX3_takeNumber_61 rfl ?_
        refine sr_aload_n (i := 0) (pc' := 63) dX3_takeNumber_62 rfl rfl rfl ?_
        refine sr_iload (pc' := 65) dX3_takeNumber_63 rfl rfl ?_
        refine sr_callV1_I (pc' := 68) (rea_byteAt_sp x5 μ) dX3_takeNumber_65 rfl mg_X3_byteAt mi_X3_byteAt (Or.inl ⟨3, _, TX3, 12, s88_25, rfl⟩) ⟨Nat.le_of_ble_eq_true rfl, Nat.le_of_ble_eq_true rfl⟩ w_225 (Nat.le_of_ble_eq_true rfl) (fun u1 hu1 hcu1 hzu1 => ?_)
        refine sr_iadd (pc' := 69) dX3_takeNumber_68 rfl ?_
        refine sr_bipush (pc' := 71) dX3_takeNumber_69 rfl (by decide) (by decide) ?_
        refine sr_isub (pc' := 72) dX3_takeNumber_71 rfl ?_
        refine sr_bnd (fun v2 hv2 => ?_)
        refine sr_istore (lv' := [some (vR 25), some (vI x1), some (vI x2), some (vI x3), some (vI v2), some (vI x5)]) (pc' := 74) dX3_takeNumber_72 rfl (by decide) rfl ?_
        refine sr_iinc (lv' := [some (vR 25), some (vI x1), some (vI x2), some (vI x3), some (vI v2), some (vI (wI (x5 + 1)))]) (pc' := 77) dX3_takeNumber_74 rfl (by decide) rfl rfl ?_
        refine sr_goto (pc' := 44) dX3_takeNumber_77 rfl ?_
        exact ih x1 x2 x3 v2 (wI (x5 + 1)) μ
def rea_takeNumber_34   (x1 x2 s0 : Int) (μ : Mem) : Option (Int × Mem) := bnd (μ 25 6) fun v1 => rea_takeNumber_44 BIG x1 x2 s0 0 v1 μ
theorem rea_takeNumber_34_s {l : Launch} {G : Nv}     : ∀ (x1 x2 s0 : Int) (μ : Mem), SR l G S88 mX3_takeNumber (rea_takeNumber_34 x1 x2 s0 μ) jIM 34 [some (vR 25), some (vI x1), some (vI x2), none, none, none] [vI s0] μ := by
  intro x1 x2 s0 μ
  unfold rea_takeNumber_34
  refine sr_istore_n (i := 3) (lv' := [some (vR 25), some (vI x1), some (vI x2), some (vI s0), none, none]) (pc' := 35) dX3_takeNumber_34 rfl rfl (by decide) rfl ?_
  refine sr_iconst (pc' := 36) dX3_takeNumber_35 rfl (by decide) ?_
  refine sr_istore (lv' := [some (vR 25), some (vI x1), some (vI x2), some (vI s0), some (vI 0), none]) (pc' := 38) dX3_takeNumber_36 rfl (by decide) rfl ?_
  refine sr_aload_n (i := 0) (pc' := 39) dX3_takeNumber_38 rfl rfl rfl ?_
  refine sr_getI (k := 6) (pc' := 42) cls_X3 dX3_takeNumber_39 rfl s88_25 rfl (by decide) w_223 ?_
  refine sr_bnd (fun v1 hv1 => ?_)
  refine sr_istore (lv' := [some (vR 25), some (vI x1), some (vI x2), some (vI s0), some (vI 0), some (vI v1)]) (pc' := 44) dX3_takeNumber_42 rfl (by decide) rfl ?_
  exact rea_takeNumber_44_s BIG x1 x2 s0 0 v1 μ
def rea_takeNumber   (x1 x2 : Int) (μ : Mem) : Option (Int × Mem) := (rea_takeToken μ).bind fun u1 => if u1.1 = 0 then (some ((-1), u1.2)) else (if (u1.2 25 5) = 2 then (rea_takeNumber_34 x1 x2 1 u1.2) else ((rea_refuse 2 (u1.2 25 6) u1.2).bind fun u2 => if u2.1 = 0 then (rea_takeNumber_34 x1 x2 0 u2.2) else (rea_takeNumber_34 x1 x2 1 u2.2)))
theorem rea_takeNumber_sp {l : Launch} {G : Nv}   (x1 x2 : Int) (μ : Mem) : SP l G S88 mX3_takeNumber [vR 25, vI x1, vI x2] μ (rea_takeNumber x1 x2 μ) jIM := by
  refine sp_go (lv := [some (vR 25), some (vI x1), some (vI x2), none, none, none]) pn_X3 (Nat.le_of_ble_eq_true rfl) rfl ?_
  unfold rea_takeNumber
  refine sr_aload_n (i := 0) (pc' := 1) dX3_takeNumber_0 rfl rfl rfl ?_
  refine sr_callV0_IM (pc' := 4) (rea_takeToken_sp μ) dX3_takeNumber_1 rfl mg_X3_takeToken mi_X3_takeToken (Or.inl ⟨3, _, TX3, 12, s88_25, rfl⟩) ⟨Nat.le_of_ble_eq_true rfl, Nat.le_of_ble_eq_true rfl⟩ w_242 (Nat.le_of_ble_eq_true rfl) (fun u1 hu1 hcu1 hzu1 => ?_)
  refine sr_if_ne (pc' := 7) (tgt := 9) dX3_takeNumber_4 rfl rfl (fun c4 => ?_) (fun c4 => ?_)
  · refine sr_iconst (pc' := 8) dX3_takeNumber_7 rfl (by decide) ?_
    exact sr_iretI dX3_takeNumber_8 rfl rfl
  · refine sr_aload_n (i := 0) (pc' := 10) dX3_takeNumber_9 rfl rfl rfl ?_
    refine sr_getI (k := 5) (pc' := 13) cls_X3 dX3_takeNumber_10 rfl s88_25 rfl (by decide) w_222 ?_
    refine sr_iconst (pc' := 14) dX3_takeNumber_13 rfl (by decide) ?_
    refine sr_icmp_eq (pc' := 17) (tgt := 29) dX3_takeNumber_14 rfl rfl (fun c14 => ?_) (fun c14 => ?_)
    · refine sr_iconst (pc' := 30) dX3_takeNumber_29 rfl (by decide) ?_
      refine sr_goto (pc' := 34) dX3_takeNumber_30 rfl ?_
      exact rea_takeNumber_34_s x1 x2 1 u1.2
    · refine sr_aload_n (i := 0) (pc' := 18) dX3_takeNumber_17 rfl rfl rfl ?_
      refine sr_iconst (pc' := 19) dX3_takeNumber_18 rfl (by decide) ?_
      refine sr_aload_n (i := 0) (pc' := 20) dX3_takeNumber_19 rfl rfl rfl ?_
      refine sr_getI (k := 6) (pc' := 23) cls_X3 dX3_takeNumber_20 rfl s88_25 rfl (by decide) w_223 ?_
      refine sr_callV2_IM (pc' := 26) (rea_refuse_sp 2 (u1.2 25 6) u1.2) dX3_takeNumber_23 rfl mg_X3_refuse mi_X3_refuse (Or.inl ⟨3, _, TX3, 12, s88_25, rfl⟩) ⟨Nat.le_of_ble_eq_true rfl, Nat.le_of_ble_eq_true rfl⟩ w_224 (Nat.le_of_ble_eq_true rfl) (fun u2 hu2 hcu2 hzu2 => ?_)
      refine sr_if_eq (pc' := 29) (tgt := 33) dX3_takeNumber_26 rfl rfl (fun c26 => ?_) (fun c26 => ?_)
      · refine sr_iconst (pc' := 34) dX3_takeNumber_33 rfl (by decide) ?_
        exact rea_takeNumber_34_s x1 x2 0 u2.2
      · refine sr_iconst (pc' := 30) dX3_takeNumber_29 rfl (by decide) ?_
        refine sr_goto (pc' := 34) dX3_takeNumber_30 rfl ?_
        exact rea_takeNumber_34_s x1 x2 1 u2.2
def rea_takeSign   (μ : Mem) : Option (Int × Mem) := (rea_takeToken μ).bind fun u1 => if u1.1 = 0 then (some (0, u1.2)) else (if (u1.2 25 5) = 3 then (some (1, u1.2)) else ((rea_refuse 2 (u1.2 25 6) u1.2).bind fun u2 => if u2.1 = 0 then (some (0, u2.2)) else (some (1, u2.2))))
theorem rea_takeSign_sp {l : Launch} {G : Nv}   (μ : Mem) : SP l G S88 mX3_takeSign [vR 25] μ (rea_takeSign μ) jIM := by
  refine sp_go (lv := [some (vR 25)]) pn_X3 (Nat.le_of_ble_eq_true rfl) rfl ?_
  unfold rea_takeSign
  refine sr_aload_n (i := 0) (pc' := 1) dX3_takeSign_0 rfl rfl rfl ?_
  refine sr_callV0_IM (pc' := 4) (rea_takeToken_sp μ) dX3_takeSign_1 rfl mg_X3_takeToken mi_X3_takeToken (Or.inl ⟨3, _, TX3, 12, s88_25, rfl⟩) ⟨Nat.le_of_ble_eq_true rfl, Nat.le_of_ble_eq_true rfl⟩ w_242 (Nat.le_of_ble_eq_true rfl) (fun u1 hu1 hcu1 hzu1 => ?_)
  refine sr_if_eq (pc' := 7) (tgt := 31) dX3_takeSign_4 rfl rfl (fun c4 => ?_) (fun c4 => ?_)
  · refine sr_iconst (pc' := 32) dX3_takeSign_31 rfl (by decide) ?_
    exact sr_iretZ dX3_takeSign_32 rfl (Or.inl rfl) rfl
  · refine sr_aload_n (i := 0) (pc' := 8) dX3_takeSign_7 rfl rfl rfl ?_
    refine sr_getI (k := 5) (pc' := 11) cls_X3 dX3_takeSign_8 rfl s88_25 rfl (by decide) w_222 ?_
    refine sr_iconst (pc' := 12) dX3_takeSign_11 rfl (by decide) ?_
    refine sr_icmp_eq (pc' := 15) (tgt := 27) dX3_takeSign_12 rfl rfl (fun c12 => ?_) (fun c12 => ?_)
    · refine sr_iconst (pc' := 28) dX3_takeSign_27 rfl (by decide) ?_
      refine sr_goto (pc' := 32) dX3_takeSign_28 rfl ?_
      exact sr_iretZ dX3_takeSign_32 rfl (Or.inr rfl) rfl
    · refine sr_aload_n (i := 0) (pc' := 16) dX3_takeSign_15 rfl rfl rfl ?_
      refine sr_iconst (pc' := 17) dX3_takeSign_16 rfl (by decide) ?_
      refine sr_aload_n (i := 0) (pc' := 18) dX3_takeSign_17 rfl rfl rfl ?_
      refine sr_getI (k := 6) (pc' := 21) cls_X3 dX3_takeSign_18 rfl s88_25 rfl (by decide) w_223 ?_
      refine sr_callV2_IM (pc' := 24) (rea_refuse_sp 2 (u1.2 25 6) u1.2) dX3_takeSign_21 rfl mg_X3_refuse mi_X3_refuse (Or.inl ⟨3, _, TX3, 12, s88_25, rfl⟩) ⟨Nat.le_of_ble_eq_true rfl, Nat.le_of_ble_eq_true rfl⟩ w_224 (Nat.le_of_ble_eq_true rfl) (fun u2 hu2 hcu2 hzu2 => ?_)
      refine sr_if_eq (pc' := 27) (tgt := 31) dX3_takeSign_24 rfl rfl (fun c24 => ?_) (fun c24 => ?_)
      · refine sr_iconst (pc' := 32) dX3_takeSign_31 rfl (by decide) ?_
        exact sr_iretZ dX3_takeSign_32 rfl (Or.inl rfl) rfl
      · refine sr_iconst (pc' := 28) dX3_takeSign_27 rfl (by decide) ?_
        refine sr_goto (pc' := 32) dX3_takeSign_28 rfl ?_
        exact sr_iretZ dX3_takeSign_32 rfl (Or.inr rfl) rfl
def rea_takeLast   (μ : Mem) : Option (Int × Mem) := if (μ 25 8) = 0 then ((rea_takeNumber 2 20 μ).bind fun u1 => if 0 ≤ u1.1 then (bnd (mset u1.2 27 9 u1.1) fun μ2 => bnd (mset μ2 25 8 1) fun μ3 => (rea_takeSign μ3).bind fun u4 => some (u4.1, u4.2)) else (some (0, u1.2))) else ((rea_refuse 4 (μ 25 6) μ).bind fun u5 => some (u5.1, u5.2))
theorem rea_takeLast_sp {l : Launch} {G : Nv}   (μ : Mem) : SP l G S88 mX3_takeLast [vR 25] μ (rea_takeLast μ) jIM := by
  refine sp_go (lv := [some (vR 25), none]) pn_X3 (Nat.le_of_ble_eq_true rfl) rfl ?_
  unfold rea_takeLast
  refine sr_aload_n (i := 0) (pc' := 1) dX3_takeLast_0 rfl rfl rfl ?_
  refine sr_getZ (k := 8) (pc' := 4) cls_X3 dX3_takeLast_1 rfl s88_25 rfl (by decide) w_243 ?_
  refine sr_if_eq (pc' := 7) (tgt := 17) dX3_takeLast_4 rfl rfl (fun c4 => ?_) (fun c4 => ?_)
  · refine sr_aload_n (i := 0) (pc' := 18) dX3_takeLast_17 rfl rfl rfl ?_
    refine sr_iconst (pc' := 19) dX3_takeLast_18 rfl (by decide) ?_
    refine sr_bipush (pc' := 21) dX3_takeLast_19 rfl (by decide) (by decide) ?_
    refine sr_callV2_IM (pc' := 24) (rea_takeNumber_sp 2 20 μ) dX3_takeLast_21 rfl mg_X3_takeNumber mi_X3_takeNumber (Or.inl ⟨3, _, TX3, 12, s88_25, rfl⟩) ⟨Nat.le_of_ble_eq_true rfl, Nat.le_of_ble_eq_true rfl⟩ w_244 (Nat.le_of_ble_eq_true rfl) (fun u1 hu1 hcu1 hzu1 => ?_)
    refine sr_istore_n (i := 1) (lv' := [some (vR 25), some (vI u1.1)]) (pc' := 25) dX3_takeLast_24 rfl rfl (by decide) rfl ?_
    refine sr_iload_n (i := 1) (pc' := 26) dX3_takeLast_25 rfl rfl rfl ?_
    refine sr_if_ge (pc' := 29) (tgt := 31) dX3_takeLast_26 rfl rfl (fun c26 => ?_) (fun c26 => ?_)
    · refine sr_aload_n (i := 0) (pc' := 32) dX3_takeLast_31 rfl rfl rfl ?_
      refine sr_getR (k := 2) (b := 27) (pc' := 35) cls_X3 dX3_takeLast_32 rfl s88_25 rfl (by decide) w_227 ?_
      refine sr_iload_n (i := 1) (pc' := 36) dX3_takeLast_35 rfl rfl rfl ?_
      refine sr_putI (k := 9) (pc' := 39) cls_X4 dX3_takeLast_36 rfl isRoad_27.1 rfl (by decide) w_230 rfl rfl (fun μ2 hμ2 => ?_)
      refine sr_aload_n (i := 0) (pc' := 40) dX3_takeLast_39 rfl rfl rfl ?_
      refine sr_iconst (pc' := 41) dX3_takeLast_40 rfl (by decide) ?_
      refine sr_putZ (k := 8) (pc' := 44) cls_X3 dX3_takeLast_41 rfl s88_25 rfl (by decide) w_243 rfl rfl (Or.inr rfl) (fun μ3 hμ3 => ?_)
      refine sr_aload_n (i := 0) (pc' := 45) dX3_takeLast_44 rfl rfl rfl ?_
      refine sr_callV0_IM (pc' := 48) (rea_takeSign_sp μ3) dX3_takeLast_45 rfl mg_X3_takeSign mi_X3_takeSign (Or.inl ⟨3, _, TX3, 12, s88_25, rfl⟩) ⟨Nat.le_of_ble_eq_true rfl, Nat.le_of_ble_eq_true rfl⟩ w_245 (Nat.le_of_ble_eq_true rfl) (fun u4 hu4 hcu4 hzu4 => ?_)
      exact sr_iretZ dX3_takeLast_48 rfl (hzu4 rfl)  rfl
    · refine sr_iconst (pc' := 30) dX3_takeLast_29 rfl (by decide) ?_
      exact sr_iretZ dX3_takeLast_30 rfl (Or.inl rfl) rfl
  · refine sr_aload_n (i := 0) (pc' := 8) dX3_takeLast_7 rfl rfl rfl ?_
    refine sr_iconst (pc' := 9) dX3_takeLast_8 rfl (by decide) ?_
    refine sr_aload_n (i := 0) (pc' := 10) dX3_takeLast_9 rfl rfl rfl ?_
    refine sr_getI (k := 6) (pc' := 13) cls_X3 dX3_takeLast_10 rfl s88_25 rfl (by decide) w_223 ?_
    refine sr_callV2_IM (pc' := 16) (rea_refuse_sp 4 (μ 25 6) μ) dX3_takeLast_13 rfl mg_X3_refuse mi_X3_refuse (Or.inl ⟨3, _, TX3, 12, s88_25, rfl⟩) ⟨Nat.le_of_ble_eq_true rfl, Nat.le_of_ble_eq_true rfl⟩ w_224 (Nat.le_of_ble_eq_true rfl) (fun u5 hu5 hcu5 hzu5 => ?_)
    exact sr_iretZ dX3_takeLast_16 rfl (hzu5 rfl)  rfl
def rea_takeYard   (μ : Mem) : Option (Int × Mem) := (rea_takeNumber 0 20 μ).bind fun u1 => bnd (mset u1.2 25 11 (iMax (u1.2 25 11) u1.1)) fun μ2 => some (u1.1, μ2)
theorem rea_takeYard_sp {l : Launch} {G : Nv}   (μ : Mem) : SP l G S88 mX3_takeYard [vR 25] μ (rea_takeYard μ) jIM := by
  refine sp_go (lv := [some (vR 25), none]) pn_X3 (Nat.le_of_ble_eq_true rfl) rfl ?_
  unfold rea_takeYard
  refine sr_aload_n (i := 0) (pc' := 1) dX3_takeYard_0 rfl rfl rfl ?_
  refine sr_iconst (pc' := 2) dX3_takeYard_1 rfl (by decide) ?_
  refine sr_bipush (pc' := 4) dX3_takeYard_2 rfl (by decide) (by decide) ?_
  refine sr_callV2_IM (pc' := 7) (rea_takeNumber_sp 0 20 μ) dX3_takeYard_4 rfl mg_X3_takeNumber mi_X3_takeNumber (Or.inl ⟨3, _, TX3, 12, s88_25, rfl⟩) ⟨Nat.le_of_ble_eq_true rfl, Nat.le_of_ble_eq_true rfl⟩ w_244 (Nat.le_of_ble_eq_true rfl) (fun u1 hu1 hcu1 hzu1 => ?_)
  refine sr_istore_n (i := 1) (lv' := [some (vR 25), some (vI u1.1)]) (pc' := 8) dX3_takeYard_7 rfl rfl (by decide) rfl ?_
  refine sr_aload_n (i := 0) (pc' := 9) dX3_takeYard_8 rfl rfl rfl ?_
  refine sr_aload_n (i := 0) (pc' := 10) dX3_takeYard_9 rfl rfl rfl ?_
  refine sr_getI (k := 11) (pc' := 13) cls_X3 dX3_takeYard_10 rfl s88_25 rfl (by decide) w_229 ?_
  refine sr_iload_n (i := 1) (pc' := 14) dX3_takeYard_13 rfl rfl rfl ?_
  refine sr_mmax (pc' := 17) dX3_takeYard_14 rfl w_246 (Nat.le_of_ble_eq_true rfl) (Nat.le_of_ble_eq_true rfl) (Nat.le_of_ble_eq_true rfl) ?_
  refine sr_putI (k := 11) (pc' := 20) cls_X3 dX3_takeYard_17 rfl s88_25 rfl (by decide) w_229 rfl rfl (fun μ2 hμ2 => ?_)
  refine sr_iload_n (i := 1) (pc' := 21) dX3_takeYard_20 rfl rfl rfl ?_
  exact sr_iretI dX3_takeYard_21 rfl rfl
def roa_setBog (r : Nat)  (x1 : Int) (μ : Mem) : Option (Mem) := bnd (mset μ r 7 (iOr (μ r 7) (iShl 1 x1))) fun μ1 => some μ1
theorem roa_setBog_sp {l : Launch} {G : Nv} {Sh : Shp} {r : Nat} (hr : IsRoad Sh r) (x1 : Int) (μ : Mem) : SP l G Sh mX4_setBog [vR r, vI x1] μ (roa_setBog r x1 μ) jM := by
  refine sp_go (lv := [some (vR r), some (vI x1)]) pn_X4 (Nat.le_of_ble_eq_true rfl) rfl ?_
  unfold roa_setBog
  refine sr_aload_n (i := 0) (pc' := 1) dX4_setBog_0 rfl rfl rfl ?_
  refine sr_dup (pc' := 2) dX4_setBog_1 rfl rfl ?_
  refine sr_getI (k := 7) (pc' := 5) cls_X4 dX4_setBog_2 rfl hr.1 rfl (by decide) w_10 ?_
  refine sr_iconst (pc' := 6) dX4_setBog_5 rfl (by decide) ?_
  refine sr_iload_n (i := 1) (pc' := 7) dX4_setBog_6 rfl rfl rfl ?_
  refine sr_ishl (pc' := 8) dX4_setBog_7 rfl ?_
  refine sr_ior (pc' := 9) dX4_setBog_8 rfl ?_
  refine sr_putI (k := 7) (pc' := 12) cls_X4 dX4_setBog_9 rfl hr.1 rfl (by decide) w_10 rfl rfl (fun μ1 hμ1 => ?_)
  exact sr_ret dX4_setBog_12 rfl rfl
def rea_takeBog   (μ : Mem) : Option (Int × Mem) := (rea_takeYard μ).bind fun u1 => if 0 ≤ u1.1 then ((roa_isBog 27 u1.2 u1.1).bind fun u2 => if u2 = 0 then ((roa_setBog 27 u1.1 u1.2).bind fun μ3 => (rea_takeSign μ3).bind fun u4 => some (u4.1, u4.2)) else ((rea_refuse 4 (u1.2 25 6) u1.2).bind fun u5 => some (u5.1, u5.2))) else (some (0, u1.2))
theorem rea_takeBog_sp {l : Launch} {G : Nv}   (μ : Mem) : SP l G S88 mX3_takeBog [vR 25] μ (rea_takeBog μ) jIM := by
  refine sp_go (lv := [some (vR 25), none]) pn_X3 (Nat.le_of_ble_eq_true rfl) rfl ?_
  unfold rea_takeBog
  refine sr_aload_n (i := 0) (pc' := 1) dX3_takeBog_0 rfl rfl rfl ?_
  refine sr_callV0_IM (pc' := 4) (rea_takeYard_sp μ) dX3_takeBog_1 rfl mg_X3_takeYard mi_X3_takeYard (Or.inl ⟨3, _, TX3, 12, s88_25, rfl⟩) ⟨Nat.le_of_ble_eq_true rfl, Nat.le_of_ble_eq_true rfl⟩ w_247 (Nat.le_of_ble_eq_true rfl) (fun u1 hu1 hcu1 hzu1 => ?_)
  refine sr_istore_n (i := 1) (lv' := [some (vR 25), some (vI u1.1)]) (pc' := 5) dX3_takeBog_4 rfl rfl (by decide) rfl ?_
  refine sr_iload_n (i := 1) (pc' := 6) dX3_takeBog_5 rfl rfl rfl ?_
  refine sr_if_ge (pc' := 9) (tgt := 11) dX3_takeBog_6 rfl rfl (fun c6 => ?_) (fun c6 => ?_)
  · refine sr_aload_n (i := 0) (pc' := 12) dX3_takeBog_11 rfl rfl rfl ?_
    refine sr_getR (k := 2) (b := 27) (pc' := 15) cls_X3 dX3_takeBog_12 rfl s88_25 rfl (by decide) w_227 ?_
    refine sr_iload_n (i := 1) (pc' := 16) dX3_takeBog_15 rfl rfl rfl ?_
    refine sr_callVN1_I (pc' := 19) (roa_isBog_sp isRoad_27 u1.1 u1.2) dX3_takeBog_16 rfl mg_X4_isBog mi_X4_isBog (Or.inl ⟨4, _, TX4, 12, isRoad_27.1, rfl⟩) ⟨Nat.le_of_ble_eq_true rfl, Nat.le_of_ble_eq_true rfl⟩ w_248 (Nat.le_of_ble_eq_true rfl) (fun u2 hu2 hcu2 hzu2 => ?_)
    refine sr_if_eq (pc' := 22) (tgt := 32) dX3_takeBog_19 rfl rfl (fun c19 => ?_) (fun c19 => ?_)
    · refine sr_aload_n (i := 0) (pc' := 33) dX3_takeBog_32 rfl rfl rfl ?_
      refine sr_getR (k := 2) (b := 27) (pc' := 36) cls_X3 dX3_takeBog_33 rfl s88_25 rfl (by decide) w_227 ?_
      refine sr_iload_n (i := 1) (pc' := 37) dX3_takeBog_36 rfl rfl rfl ?_
      refine sr_callVN1_M (pc' := 40) (roa_setBog_sp isRoad_27 u1.1 u1.2) dX3_takeBog_37 rfl mg_X4_setBog mi_X4_setBog (Or.inl ⟨4, _, TX4, 12, isRoad_27.1, rfl⟩) ⟨Nat.le_of_ble_eq_true rfl, Nat.le_of_ble_eq_true rfl⟩ w_249 (Nat.le_of_ble_eq_true rfl) (fun μ3 hμ3 => ?_)
      refine sr_aload_n (i := 0) (pc' := 41) dX3_takeBog_40 rfl rfl rfl ?_
      refine sr_callV0_IM (pc' := 44) (rea_takeSign_sp μ3) dX3_takeBog_41 rfl mg_X3_takeSign mi_X3_takeSign (Or.inl ⟨3, _, TX3, 12, s88_25, rfl⟩) ⟨Nat.le_of_ble_eq_true rfl, Nat.le_of_ble_eq_true rfl⟩ w_245 (Nat.le_of_ble_eq_true rfl) (fun u4 hu4 hcu4 hzu4 => ?_)
      exact sr_iretZ dX3_takeBog_44 rfl (hzu4 rfl)  rfl
    · refine sr_aload_n (i := 0) (pc' := 23) dX3_takeBog_22 rfl rfl rfl ?_
      refine sr_iconst (pc' := 24) dX3_takeBog_23 rfl (by decide) ?_
      refine sr_aload_n (i := 0) (pc' := 25) dX3_takeBog_24 rfl rfl rfl ?_
      refine sr_getI (k := 6) (pc' := 28) cls_X3 dX3_takeBog_25 rfl s88_25 rfl (by decide) w_223 ?_
      refine sr_callV2_IM (pc' := 31) (rea_refuse_sp 4 (u1.2 25 6) u1.2) dX3_takeBog_28 rfl mg_X3_refuse mi_X3_refuse (Or.inl ⟨3, _, TX3, 12, s88_25, rfl⟩) ⟨Nat.le_of_ble_eq_true rfl, Nat.le_of_ble_eq_true rfl⟩ w_224 (Nat.le_of_ble_eq_true rfl) (fun u5 hu5 hcu5 hzu5 => ?_)
      exact sr_iretZ dX3_takeBog_31 rfl (hzu5 rfl)  rfl
  · refine sr_iconst (pc' := 10) dX3_takeBog_9 rfl (by decide) ?_
    exact sr_iretZ dX3_takeBog_10 rfl (Or.inl rfl) rfl
