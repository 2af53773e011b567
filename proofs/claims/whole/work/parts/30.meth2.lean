def ww_feed   (x1 : Int) (μ : Mem) : Option (Int × Mem) := if (wI ((μ 25 1) + 8)) ≤ 400 then ((rea_append x1 μ).bind fun u1 => some (u1.1, u1.2)) else (some ((-3), μ))
theorem ww_feed_sp {l : Launch} {G : Nv}   (x1 : Int) (μ : Mem) : SP l G S88 mX8_feed [vR 0, vL x1] μ (ww_feed x1 μ) jIM := by
  refine sp_go (lv := [some (vR 0), some (vL x1), none]) pn_X8 (Nat.le_of_ble_eq_true rfl) rfl ?_
  unfold ww_feed
  refine sr_aload_n (i := 0) (pc' := 1) dX8_feed_0 rfl rfl rfl ?_
  refine sr_getR (k := 3) (b := 25) (pc' := 4) cls_X8 dX8_feed_1 rfl s88_0 rfl (by decide) w_56 ?_
  refine sr_getIN (k := 1) (pc' := 7) cls_X3 dX8_feed_4 rfl s88_25 rfl (by decide) w_57 ?_
  refine sr_bipush (pc' := 9) dX8_feed_7 rfl (by decide) (by decide) ?_
  refine sr_iadd (pc' := 10) dX8_feed_9 rfl ?_
  refine sr_sipush (pc' := 13) dX8_feed_10 rfl (by decide) (by decide) ?_
  refine sr_icmp_le (pc' := 16) (tgt := 21) dX8_feed_13 rfl rfl (fun c13 => ?_) (fun c13 => ?_)
  · refine sr_aload_n (i := 0) (pc' := 22) dX8_feed_21 rfl rfl rfl ?_
    refine sr_getR (k := 3) (b := 25) (pc' := 25) cls_X8 dX8_feed_22 rfl s88_0 rfl (by decide) w_56 ?_
    refine sr_lload_n (i := 1) (pc' := 26) dX8_feed_25 rfl rfl rfl ?_
    refine sr_callVN1_IM (pc' := 29) (rea_append_sp x1 μ) dX8_feed_26 rfl mg_X3_append mi_X3_append (Or.inl ⟨3, _, TX3, 12, s88_25, rfl⟩) ⟨Nat.le_of_ble_eq_true rfl, Nat.le_of_ble_eq_true rfl⟩ w_124 (Nat.le_of_ble_eq_true rfl) (fun u1 hu1 hcu1 hzu1 => ?_)
    exact sr_iretI dX8_feed_29 rfl rfl
  · refine sr_bipush (pc' := 18) dX8_feed_16 rfl (by decide) (by decide) ?_
    refine sr_goto (pc' := 29) dX8_feed_18 rfl ?_
    exact sr_iretI dX8_feed_29 rfl rfl
def ww_fill_24   : Nat → Int → Int → Int → Mem → Option (Int × Mem)
  | 0, _, _, _, _ => none
  | n + 1, x1, x2, x3, μ => if 3 ≤ x3 then (some (x2, μ)) else ((ww_rut μ x1 x3).bind fun u1 => (ww_swap 5 63 u1 0 μ).bind fun u2 => bnd (iMax x2 u2.1) fun v3 => ww_fill_24 n x1 v3 (wI (x3 + 1)) u2.2)
theorem ww_fill_24_s {l : Launch} {G : Nv}     : ∀ (n : Nat) (x1 x2 x3 : Int) (μ : Mem), SR l G S88 mX8_fill (ww_fill_24 n x1 x2 x3 μ) jIM 24 [some (vR 0), some (vI x1), some (vI x2), some (vI x3)] [] μ := by
  intro n
  induction n with
  | zero => intro x1 x2 x3 μ; exact sr_none
  | succ n ih =>
    intro x1 x2 x3 μ
    rw [ww_fill_24.eq_2]
    refine sr_iload_n (i := 3) (pc' := 25) dX8_fill_24 rfl rfl rfl ?_
    refine sr_iconst (pc' := 26) dX8_fill_25 rfl (by decide) ?_
    refine sr_icmp_ge (pc' := 29) (tgt := 56) dX8_fill_26 rfl rfl (fun c26 => ?_) (fun c26 => ?_)
    · refine sr_iload_n (i := 2) (pc' := 57) dX8_fill_56 rfl rfl rfl ?_
      exact sr_iretI dX8_fill_57 rfl rfl
    · refine sr_iload_n (i := 2) (pc' := 30) dX8_fill_29 rfl rfl rfl ?_
      refine sr_aload_n (i := 0) (pc' := 31) dX8_fill_30 rfl rfl rfl ?_
      refine sr_getR (k := 0) (b := 1) (pc' := 34) cls_X8 dX8_fill_31 rfl s88_0 rfl (by decide) w_19 ?_
      refine sr_getR (k := 3) (b := 5) (pc' := 37) cls_X4 dX8_fill_34 rfl isRoad_1.1 rfl (by decide) w_117 ?_
      refine sr_iload_n (i := 1) (pc' := 38) dX8_fill_37 rfl rfl rfl ?_
      refine sr_iload_n (i := 3) (pc' := 39) dX8_fill_38 rfl rfl rfl ?_
      refine sr_callS2_I (pc' := 42) (ww_rut_sp x1 x3 μ) dX8_fill_39 rfl mg_X8_rut ms_X8_rut ⟨Nat.le_of_ble_eq_true rfl, Nat.le_of_ble_eq_true rfl⟩ w_115 (Nat.le_of_ble_eq_true rfl) (fun u1 hu1 hcu1 hzu1 => ?_)
      refine sr_iconst (pc' := 43) dX8_fill_42 rfl (by decide) ?_
      refine sr_callS3_IM (pc' := 46) (ww_swap_sp isRoad_1.2.2.2.2.1 (by decide) u1 0 μ) dX8_fill_43 rfl mg_X8_swap ms_X8_swap ⟨Nat.le_of_ble_eq_true rfl, Nat.le_of_ble_eq_true rfl⟩ w_118 (Nat.le_of_ble_eq_true rfl) (fun u2 hu2 hcu2 hzu2 => ?_)
      refine sr_mmax (pc' := 49) dX8_fill_46 rfl w_125 (Nat.le_of_ble_eq_true rfl) (Nat.le_of_ble_eq_true rfl) (Nat.le_of_ble_eq_true rfl) ?_
      refine sr_bnd (fun v3 hv3 => ?_)
      refine sr_istore_n (i := 2) (lv' := [some (vR 0), some (vI x1), some (vI v3), some (vI x3)]) (pc' := 50) dX8_fill_49 rfl rfl (by decide) rfl ?_
      refine sr_iinc (lv' := [some (vR 0), some (vI x1), some (vI v3), some (vI (wI (x3 + 1)))]) (pc' := 53) dX8_fill_50 rfl (by decide) rfl rfl ?_
      refine sr_goto (pc' := 24) dX8_fill_53 rfl ?_
      exact ih x1 v3 (wI (x3 + 1)) u2.2
def ww_fill   (x1 : Int) (μ : Mem) : Option (Int × Mem) := (roa_hasYard 1 μ x1).bind fun u1 => if u1 = 0 then (some ((-1), μ)) else ((pla_drop μ).bind fun μ2 => ww_fill_24 BIG x1 0 0 μ2)
theorem ww_fill_sp {l : Launch} {G : Nv}   (x1 : Int) (μ : Mem) : SP l G S88 mX8_fill [vR 0, vI x1] μ (ww_fill x1 μ) jIM := by
  refine sp_go (lv := [some (vR 0), some (vI x1), none, none]) pn_X8 (Nat.le_of_ble_eq_true rfl) rfl ?_
  unfold ww_fill
  refine sr_aload_n (i := 0) (pc' := 1) dX8_fill_0 rfl rfl rfl ?_
  refine sr_getR (k := 0) (b := 1) (pc' := 4) cls_X8 dX8_fill_1 rfl s88_0 rfl (by decide) w_19 ?_
  refine sr_iload_n (i := 1) (pc' := 5) dX8_fill_4 rfl rfl rfl ?_
  refine sr_callVN1_I (pc' := 8) (roa_hasYard_sp isRoad_1 x1 μ) dX8_fill_5 rfl mg_X4_hasYard mi_X4_hasYard (Or.inl ⟨4, _, TX4, 12, isRoad_1.1, rfl⟩) ⟨Nat.le_of_ble_eq_true rfl, Nat.le_of_ble_eq_true rfl⟩ w_113 (Nat.le_of_ble_eq_true rfl) (fun u1 hu1 hcu1 hzu1 => ?_)
  refine sr_if_ne (pc' := 11) (tgt := 13) dX8_fill_8 rfl rfl (fun c8 => ?_) (fun c8 => ?_)
  · refine sr_iconst (pc' := 12) dX8_fill_11 rfl (by decide) ?_
    exact sr_iretI dX8_fill_12 rfl rfl
  · refine sr_aload_n (i := 0) (pc' := 14) dX8_fill_13 rfl rfl rfl ?_
    refine sr_getR (k := 6) (b := 46) (pc' := 17) cls_X8 dX8_fill_14 rfl s88_0 rfl (by decide) w_22 ?_
    refine sr_callVN0_M (pc' := 20) (pla_drop_sp μ) dX8_fill_17 rfl mg_X2_drop mi_X2_drop (Or.inl ⟨2, _, TX2, 10, s88_46, rfl⟩) ⟨Nat.le_of_ble_eq_true rfl, Nat.le_of_ble_eq_true rfl⟩ w_23 (Nat.le_of_ble_eq_true rfl) (fun μ2 hμ2 => ?_)
    refine sr_iconst (pc' := 21) dX8_fill_20 rfl (by decide) ?_
    refine sr_istore_n (i := 2) (lv' := [some (vR 0), some (vI x1), some (vI 0), none]) (pc' := 22) dX8_fill_21 rfl rfl (by decide) rfl ?_
    refine sr_iconst (pc' := 23) dX8_fill_22 rfl (by decide) ?_
    refine sr_istore_n (i := 3) (lv' := [some (vR 0), some (vI x1), some (vI 0), some (vI 0)]) (pc' := 24) dX8_fill_23 rfl rfl (by decide) rfl ?_
    exact ww_fill_24_s BIG x1 0 0 μ2
def ww_isShare (μ : Mem)  (x0 : Int) : Option (Int) := if x0 < 0 then (some 0) else (if 60 < x0 then (some 0) else (some 1))
theorem ww_isShare_sp {l : Launch} {G : Nv} {Sh : Shp}   (x0 : Int) (μ : Mem) : SP l G Sh mX8_isShare [vI x0] μ (ww_isShare μ x0) (jI μ) := by
  refine sp_go (lv := [some (vI x0)]) pn_X8 (Nat.le_of_ble_eq_true rfl) rfl ?_
  unfold ww_isShare
  refine sr_iload_n (i := 0) (pc' := 1) dX8_isShare_0 rfl rfl rfl ?_
  refine sr_if_lt (pc' := 4) (tgt := 14) dX8_isShare_1 rfl rfl (fun c1 => ?_) (fun c1 => ?_)
  · refine sr_iconst (pc' := 15) dX8_isShare_14 rfl (by decide) ?_
    exact sr_iretZ dX8_isShare_15 rfl (Or.inl rfl) rfl
  · refine sr_iload_n (i := 0) (pc' := 5) dX8_isShare_4 rfl rfl rfl ?_
    refine sr_bipush (pc' := 7) dX8_isShare_5 rfl (by decide) (by decide) ?_
    refine sr_icmp_gt (pc' := 10) (tgt := 14) dX8_isShare_7 rfl rfl (fun c7 => ?_) (fun c7 => ?_)
    · refine sr_iconst (pc' := 15) dX8_isShare_14 rfl (by decide) ?_
      exact sr_iretZ dX8_isShare_15 rfl (Or.inl rfl) rfl
    · refine sr_iconst (pc' := 11) dX8_isShare_10 rfl (by decide) ?_
      refine sr_goto (pc' := 15) dX8_isShare_11 rfl ?_
      exact sr_iretZ dX8_isShare_15 rfl (Or.inr rfl) rfl
def roa_isFirm (r : Nat) (μ : Mem)  (x1 x2 x3 : Int) : Option (Int) := (ww_at (r + 6) 8 μ 7).bind fun u1 => if (wI ((wI (x1 + x2)) + x3)) = u1 then ((ww_at (r + 6) 8 μ 1).bind fun u2 => if u2 < x1 then (some 0) else ((ww_at (r + 6) 8 μ 2).bind fun u3 => if u3 < x2 then (some 0) else ((ww_at (r + 6) 8 μ 4).bind fun u4 => if u4 < x3 then (some 0) else ((ww_at (r + 6) 8 μ 3).bind fun u5 => if u5 < (wI (x1 + x2)) then (some 0) else ((ww_at (r + 6) 8 μ 5).bind fun u6 => if u6 < (wI (x1 + x3)) then (some 0) else ((ww_at (r + 6) 8 μ 6).bind fun u7 => if u7 < (wI (x2 + x3)) then (some 0) else (some 1))))))) else (some 0)
theorem roa_isFirm_sp {l : Launch} {G : Nv} {Sh : Shp} {r : Nat} (hr : IsRoad Sh r) (x1 x2 x3 : Int) (μ : Mem) : SP l G Sh mX4_isFirm [vR r, vI x1, vI x2, vI x3] μ (roa_isFirm r μ x1 x2 x3) (jI μ) := by
  refine sp_go (lv := [some (vR r), some (vI x1), some (vI x2), some (vI x3)]) pn_X4 (Nat.le_of_ble_eq_true rfl) rfl ?_
  unfold roa_isFirm
  refine sr_iload_n (i := 1) (pc' := 1) dX4_isFirm_0 rfl rfl rfl ?_
  refine sr_iload_n (i := 2) (pc' := 2) dX4_isFirm_1 rfl rfl rfl ?_
  refine sr_iadd (pc' := 3) dX4_isFirm_2 rfl ?_
  refine sr_iload_n (i := 3) (pc' := 4) dX4_isFirm_3 rfl rfl rfl ?_
  refine sr_iadd (pc' := 5) dX4_isFirm_4 rfl ?_
  refine sr_aload_n (i := 0) (pc' := 6) dX4_isFirm_5 rfl rfl rfl ?_
  refine sr_getR (k := 5) (b := (r + 6)) (pc' := 9) cls_X4 dX4_isFirm_6 rfl hr.1 rfl (by decide) w_8 ?_
  refine sr_bipush (pc' := 11) dX4_isFirm_9 rfl (by decide) (by decide) ?_
  refine sr_callSN2_I (pc' := 14) (ww_at_sp hr.2.2.2.2.2.2.1 (by decide) 7 μ) dX4_isFirm_11 rfl mg_X8_at ms_X8_at ⟨Nat.le_of_ble_eq_true rfl, Nat.le_of_ble_eq_true rfl⟩ w_89 (Nat.le_of_ble_eq_true rfl) (fun u1 hu1 hcu1 hzu1 => ?_)
  refine sr_icmp_ne (pc' := 17) (tgt := 100) dX4_isFirm_14 rfl rfl (fun c14 => ?_) (fun c14 => ?_)
  · refine sr_iload_n (i := 1) (pc' := 18) dX4_isFirm_17 rfl rfl rfl ?_
    refine sr_aload_n (i := 0) (pc' := 19) dX4_isFirm_18 rfl rfl rfl ?_
    refine sr_getR (k := 5) (b := (r + 6)) (pc' := 22) cls_X4 dX4_isFirm_19 rfl hr.1 rfl (by decide) w_8 ?_
    refine sr_iconst (pc' := 23) dX4_isFirm_22 rfl (by decide) ?_
    refine sr_callSN2_I (pc' := 26) (ww_at_sp hr.2.2.2.2.2.2.1 (by decide) 1 μ) dX4_isFirm_23 rfl mg_X8_at ms_X8_at ⟨Nat.le_of_ble_eq_true rfl, Nat.le_of_ble_eq_true rfl⟩ w_89 (Nat.le_of_ble_eq_true rfl) (fun u2 hu2 hcu2 hzu2 => ?_)
    refine sr_icmp_gt (pc' := 29) (tgt := 100) dX4_isFirm_26 rfl rfl (fun c26 => ?_) (fun c26 => ?_)
    · refine sr_iconst (pc' := 101) dX4_isFirm_100 rfl (by decide) ?_
      exact sr_iretZ dX4_isFirm_101 rfl (Or.inl rfl) rfl
    · refine sr_iload_n (i := 2) (pc' := 30) dX4_isFirm_29 rfl rfl rfl ?_
      refine sr_aload_n (i := 0) (pc' := 31) dX4_isFirm_30 rfl rfl rfl ?_
      refine sr_getR (k := 5) (b := (r + 6)) (pc' := 34) cls_X4 dX4_isFirm_31 rfl hr.1 rfl (by decide) w_8 ?_
      refine sr_iconst (pc' := 35) dX4_isFirm_34 rfl (by decide) ?_
      refine sr_callSN2_I (pc' := 38) (ww_at_sp hr.2.2.2.2.2.2.1 (by decide) 2 μ) dX4_isFirm_35 rfl mg_X8_at ms_X8_at ⟨Nat.le_of_ble_eq_true rfl, Nat.le_of_ble_eq_true rfl⟩ w_89 (Nat.le_of_ble_eq_true rfl) (fun u3 hu3 hcu3 hzu3 => ?_)
      refine sr_icmp_gt (pc' := 41) (tgt := 100) dX4_isFirm_38 rfl rfl (fun c38 => ?_) (fun c38 => ?_)
      · refine sr_iconst (pc' := 101) dX4_isFirm_100 rfl (by decide) ?_
        exact sr_iretZ dX4_isFirm_101 rfl (Or.inl rfl) rfl
      · refine sr_iload_n (i := 3) (pc' := 42) dX4_isFirm_41 rfl rfl rfl ?_
        refine sr_aload_n (i := 0) (pc' := 43) dX4_isFirm_42 rfl rfl rfl ?_
        refine sr_getR (k := 5) (b := (r + 6)) (pc' := 46) cls_X4 dX4_isFirm_43 rfl hr.1 rfl (by decide) w_8 ?_
        refine sr_iconst (pc' := 47) dX4_isFirm_46 rfl (by decide) ?_
        refine sr_callSN2_I (pc' := 50) (ww_at_sp hr.2.2.2.2.2.2.1 (by decide) 4 μ) dX4_isFirm_47 rfl mg_X8_at ms_X8_at ⟨Nat.le_of_ble_eq_true rfl, Nat.le_of_ble_eq_true rfl⟩ w_89 (Nat.le_of_ble_eq_true rfl) (fun u4 hu4 hcu4 hzu4 => ?_)
        refine sr_icmp_gt (pc' := 53) (tgt := 100) dX4_isFirm_50 rfl rfl (fun c50 => ?_) (fun c50 => ?_)
        · refine sr_iconst (pc' := 101) dX4_isFirm_100 rfl (by decide) ?_
          exact sr_iretZ dX4_isFirm_101 rfl (Or.inl rfl) rfl
        · refine sr_iload_n (i := 1) (pc' := 54) dX4_isFirm_53 rfl rfl rfl ?_
          refine sr_iload_n (i := 2) (pc' := 55) dX4_isFirm_54 rfl rfl rfl ?_
          refine sr_iadd (pc' := 56) dX4_isFirm_55 rfl ?_
          refine sr_aload_n (i := 0) (pc' := 57) dX4_isFirm_56 rfl rfl rfl ?_
          refine sr_getR (k := 5) (b := (r + 6)) (pc' := 60) cls_X4 dX4_isFirm_57 rfl hr.1 rfl (by decide) w_8 ?_
          refine sr_iconst (pc' := 61) dX4_isFirm_60 rfl (by decide) ?_
          refine sr_callSN2_I (pc' := 64) (ww_at_sp hr.2.2.2.2.2.2.1 (by decide) 3 μ) dX4_isFirm_61 rfl mg_X8_at ms_X8_at ⟨Nat.le_of_ble_eq_true rfl, Nat.le_of_ble_eq_true rfl⟩ w_89 (Nat.le_of_ble_eq_true rfl) (fun u5 hu5 hcu5 hzu5 => ?_)
          refine sr_icmp_gt (pc' := 67) (tgt := 100) dX4_isFirm_64 rfl rfl (fun c64 => ?_) (fun c64 => ?_)
          · refine sr_iconst (pc' := 101) dX4_isFirm_100 rfl (by decide) ?_
            exact sr_iretZ dX4_isFirm_101 rfl (Or.inl rfl) rfl
          · refine sr_iload_n (i := 1) (pc' := 68) dX4_isFirm_67 rfl rfl rfl ?_
            refine sr_iload_n (i := 3) (pc' := 69) dX4_isFirm_68 rfl rfl rfl ?_
            refine sr_iadd (pc' := 70) dX4_isFirm_69 rfl ?_
            refine sr_aload_n (i := 0) (pc' := 71) dX4_isFirm_70 rfl rfl rfl ?_
            refine sr_getR (k := 5) (b := (r + 6)) (pc' := 74) cls_X4 dX4_isFirm_71 rfl hr.1 rfl (by decide) w_8 ?_
            refine sr_iconst (pc' := 75) dX4_isFirm_74 rfl (by decide) ?_
            refine sr_callSN2_I (pc' := 78) (ww_at_sp hr.2.2.2.2.2.2.1 (by decide) 5 μ) dX4_isFirm_75 rfl mg_X8_at ms_X8_at ⟨Nat.le_of_ble_eq_true rfl, Nat.le_of_ble_eq_true rfl⟩ w_89 (Nat.le_of_ble_eq_true rfl) (fun u6 hu6 hcu6 hzu6 => ?_)
            refine sr_icmp_gt (pc' := 81) (tgt := 100) dX4_isFirm_78 rfl rfl (fun c78 => ?_) (fun c78 => ?_)
            · refine sr_iconst (pc' := 101) dX4_isFirm_100 rfl (by decide) ?_
              exact sr_iretZ dX4_isFirm_101 rfl (Or.inl rfl) rfl
            · refine sr_iload_n (i := 2) (pc' := 82) dX4_isFirm_81 rfl rfl rfl ?_
              refine sr_iload_n (i := 3) (pc' := 83) dX4_isFirm_82 rfl rfl rfl ?_
              refine sr_iadd (pc' := 84) dX4_isFirm_83 rfl ?_
              refine sr_aload_n (i := 0) (pc' := 85) dX4_isFirm_84 rfl rfl rfl ?_
              refine sr_getR (k := 5) (b := (r + 6)) (pc' := 88) cls_X4 dX4_isFirm_85 rfl hr.1 rfl (by decide) w_8 ?_
              refine sr_bipush (pc' := 90) dX4_isFirm_88 rfl (by decide) (by decide) ?_
              refine sr_callSN2_I (pc' := 93) (ww_at_sp hr.2.2.2.2.2.2.1 (by decide) 6 μ) dX4_isFirm_90 rfl mg_X8_at ms_X8_at ⟨Nat.le_of_ble_eq_true rfl, Nat.le_of_ble_eq_true rfl⟩ w_89 (Nat.le_of_ble_eq_true rfl) (fun u7 hu7 hcu7 hzu7 => ?_)
              refine sr_icmp_gt (pc' := 96) (tgt := 100) dX4_isFirm_93 rfl rfl (fun c93 => ?_) (fun c93 => ?_)
              · refine sr_iconst (pc' := 101) dX4_isFirm_100 rfl (by decide) ?_
                exact sr_iretZ dX4_isFirm_101 rfl (Or.inl rfl) rfl
              · refine sr_iconst (pc' := 97) dX4_isFirm_96 rfl (by decide) ?_
                refine sr_goto (pc' := 101) dX4_isFirm_97 rfl ?_
                exact sr_iretZ dX4_isFirm_101 rfl (Or.inr rfl) rfl
  · refine sr_iconst (pc' := 101) dX4_isFirm_100 rfl (by decide) ?_
    exact sr_iretZ dX4_isFirm_101 rfl (Or.inl rfl) rfl
def ww_firm (μ : Mem)  (x1 x2 x3 : Int) : Option (Int) := (ww_isShare μ x1).bind fun u1 => if u1 = 0 then (some (-1)) else ((ww_isShare μ x2).bind fun u2 => if u2 = 0 then (some (-1)) else ((ww_isShare μ x3).bind fun u3 => if u3 = 0 then (some (-1)) else ((roa_isFirm 1 μ x1 x2 x3).bind fun u4 => if u4 = 0 then (some 0) else (some 1))))
theorem ww_firm_sp {l : Launch} {G : Nv}   (x1 x2 x3 : Int) (μ : Mem) : SP l G S88 mX8_firm [vR 0, vI x1, vI x2, vI x3] μ (ww_firm μ x1 x2 x3) (jI μ) := by
  refine sp_go (lv := [some (vR 0), some (vI x1), some (vI x2), some (vI x3)]) pn_X8 (Nat.le_of_ble_eq_true rfl) rfl ?_
  unfold ww_firm
  refine sr_iload_n (i := 1) (pc' := 1) dX8_firm_0 rfl rfl rfl ?_
  refine sr_callS1_I (pc' := 4) (ww_isShare_sp x1 μ) dX8_firm_1 rfl mg_X8_isShare ms_X8_isShare ⟨Nat.le_of_ble_eq_true rfl, Nat.le_of_ble_eq_true rfl⟩ w_126 (Nat.le_of_ble_eq_true rfl) (fun u1 hu1 hcu1 hzu1 => ?_)
  refine sr_if_eq (pc' := 7) (tgt := 21) dX8_firm_4 rfl rfl (fun c4 => ?_) (fun c4 => ?_)
  · refine sr_iconst (pc' := 22) dX8_firm_21 rfl (by decide) ?_
    exact sr_iretI dX8_firm_22 rfl rfl
  · refine sr_iload_n (i := 2) (pc' := 8) dX8_firm_7 rfl rfl rfl ?_
    refine sr_callS1_I (pc' := 11) (ww_isShare_sp x2 μ) dX8_firm_8 rfl mg_X8_isShare ms_X8_isShare ⟨Nat.le_of_ble_eq_true rfl, Nat.le_of_ble_eq_true rfl⟩ w_126 (Nat.le_of_ble_eq_true rfl) (fun u2 hu2 hcu2 hzu2 => ?_)
    refine sr_if_eq (pc' := 14) (tgt := 21) dX8_firm_11 rfl rfl (fun c11 => ?_) (fun c11 => ?_)
    · refine sr_iconst (pc' := 22) dX8_firm_21 rfl (by decide) ?_
      exact sr_iretI dX8_firm_22 rfl rfl
    · refine sr_iload_n (i := 3) (pc' := 15) dX8_firm_14 rfl rfl rfl ?_
      refine sr_callS1_I (pc' := 18) (ww_isShare_sp x3 μ) dX8_firm_15 rfl mg_X8_isShare ms_X8_isShare ⟨Nat.le_of_ble_eq_true rfl, Nat.le_of_ble_eq_true rfl⟩ w_126 (Nat.le_of_ble_eq_true rfl) (fun u3 hu3 hcu3 hzu3 => ?_)
      refine sr_if_ne (pc' := 21) (tgt := 23) dX8_firm_18 rfl rfl (fun c18 => ?_) (fun c18 => ?_)
      · refine sr_iconst (pc' := 22) dX8_firm_21 rfl (by decide) ?_
        exact sr_iretI dX8_firm_22 rfl rfl
      · refine sr_aload_n (i := 0) (pc' := 24) dX8_firm_23 rfl rfl rfl ?_
        refine sr_getR (k := 0) (b := 1) (pc' := 27) cls_X8 dX8_firm_24 rfl s88_0 rfl (by decide) w_19 ?_
        refine sr_iload_n (i := 1) (pc' := 28) dX8_firm_27 rfl rfl rfl ?_
        refine sr_iload_n (i := 2) (pc' := 29) dX8_firm_28 rfl rfl rfl ?_
        refine sr_iload_n (i := 3) (pc' := 30) dX8_firm_29 rfl rfl rfl ?_
        refine sr_callVN3_I (pc' := 33) (roa_isFirm_sp isRoad_1 x1 x2 x3 μ) dX8_firm_30 rfl mg_X4_isFirm mi_X4_isFirm (Or.inl ⟨4, _, TX4, 12, isRoad_1.1, rfl⟩) ⟨Nat.le_of_ble_eq_true rfl, Nat.le_of_ble_eq_true rfl⟩ w_127 (Nat.le_of_ble_eq_true rfl) (fun u4 hu4 hcu4 hzu4 => ?_)
        refine sr_if_eq (pc' := 36) (tgt := 40) dX8_firm_33 rfl rfl (fun c33 => ?_) (fun c33 => ?_)
        · refine sr_iconst (pc' := 41) dX8_firm_40 rfl (by decide) ?_
          exact sr_iretI dX8_firm_41 rfl rfl
        · refine sr_iconst (pc' := 37) dX8_firm_36 rfl (by decide) ?_
          refine sr_goto (pc' := 41) dX8_firm_37 rfl ?_
          exact sr_iretI dX8_firm_41 rfl rfl
def ww_forget   (x1 : Int) (μ : Mem) : Option (Int × Mem) := if x1 < 0 then (some ((-1), μ)) else (if x1 ≤ (μ 1 11) then (bnd (μ 1 11) fun v1 => bnd (mset μ 1 11 x1) fun μ2 => some (v1, μ2)) else (some ((-1), μ)))
theorem ww_forget_sp {l : Launch} {G : Nv}   (x1 : Int) (μ : Mem) : SP l G S88 mX8_forget [vR 0, vI x1] μ (ww_forget x1 μ) jIM := by
  refine sp_go (lv := [some (vR 0), some (vI x1), none]) pn_X8 (Nat.le_of_ble_eq_true rfl) rfl ?_
  unfold ww_forget
  refine sr_iload_n (i := 1) (pc' := 1) dX8_forget_0 rfl rfl rfl ?_
  refine sr_if_lt (pc' := 4) (tgt := 15) dX8_forget_1 rfl rfl (fun c1 => ?_) (fun c1 => ?_)
  · refine sr_iconst (pc' := 16) dX8_forget_15 rfl (by decide) ?_
    exact sr_iretI dX8_forget_16 rfl rfl
  · refine sr_iload_n (i := 1) (pc' := 5) dX8_forget_4 rfl rfl rfl ?_
    refine sr_aload_n (i := 0) (pc' := 6) dX8_forget_5 rfl rfl rfl ?_
    refine sr_getR (k := 0) (b := 1) (pc' := 9) cls_X8 dX8_forget_6 rfl s88_0 rfl (by decide) w_19 ?_
    refine sr_getI (k := 11) (pc' := 12) cls_X4 dX8_forget_9 rfl isRoad_1.1 rfl (by decide) w_54 ?_
    refine sr_icmp_le (pc' := 15) (tgt := 17) dX8_forget_12 rfl rfl (fun c12 => ?_) (fun c12 => ?_)
    · refine sr_aload_n (i := 0) (pc' := 18) dX8_forget_17 rfl rfl rfl ?_
      refine sr_getR (k := 0) (b := 1) (pc' := 21) cls_X8 dX8_forget_18 rfl s88_0 rfl (by decide) w_19 ?_
      refine sr_getI (k := 11) (pc' := 24) cls_X4 dX8_forget_21 rfl isRoad_1.1 rfl (by decide) w_54 ?_
      refine sr_bnd (fun v1 hv1 => ?_)
      refine sr_istore_n (i := 2) (lv' := [some (vR 0), some (vI x1), some (vI v1)]) (pc' := 25) dX8_forget_24 rfl rfl (by decide) rfl ?_
      refine sr_aload_n (i := 0) (pc' := 26) dX8_forget_25 rfl rfl rfl ?_
      refine sr_getR (k := 0) (b := 1) (pc' := 29) cls_X8 dX8_forget_26 rfl s88_0 rfl (by decide) w_19 ?_
      refine sr_iload_n (i := 1) (pc' := 30) dX8_forget_29 rfl rfl rfl ?_
      refine sr_putI (k := 11) (pc' := 33) cls_X4 dX8_forget_30 rfl isRoad_1.1 rfl (by decide) w_54 rfl rfl (fun μ2 hμ2 => ?_)
      refine sr_iload_n (i := 2) (pc' := 34) dX8_forget_33 rfl rfl rfl ?_
      exact sr_iretI dX8_forget_34 rfl rfl
    · refine sr_iconst (pc' := 16) dX8_forget_15 rfl (by decide) ?_
      exact sr_iretI dX8_forget_16 rfl rfl
def ww_isHour (μ : Mem)  (x0 : Int) : Option (Int) := if x0 < 1 then (some 0) else (if 60 < x0 then (some 0) else (some 1))
theorem ww_isHour_sp {l : Launch} {G : Nv} {Sh : Shp}   (x0 : Int) (μ : Mem) : SP l G Sh mX8_isHour [vI x0] μ (ww_isHour μ x0) (jI μ) := by
  refine sp_go (lv := [some (vI x0)]) pn_X8 (Nat.le_of_ble_eq_true rfl) rfl ?_
  unfold ww_isHour
  refine sr_iload_n (i := 0) (pc' := 1) dX8_isHour_0 rfl rfl rfl ?_
  refine sr_iconst (pc' := 2) dX8_isHour_1 rfl (by decide) ?_
  refine sr_icmp_lt (pc' := 5) (tgt := 15) dX8_isHour_2 rfl rfl (fun c2 => ?_) (fun c2 => ?_)
  · refine sr_iconst (pc' := 16) dX8_isHour_15 rfl (by decide) ?_
    exact sr_iretZ dX8_isHour_16 rfl (Or.inl rfl) rfl
  · refine sr_iload_n (i := 0) (pc' := 6) dX8_isHour_5 rfl rfl rfl ?_
    refine sr_bipush (pc' := 8) dX8_isHour_6 rfl (by decide) (by decide) ?_
    refine sr_icmp_gt (pc' := 11) (tgt := 15) dX8_isHour_8 rfl rfl (fun c8 => ?_) (fun c8 => ?_)
    · refine sr_iconst (pc' := 16) dX8_isHour_15 rfl (by decide) ?_
      exact sr_iretZ dX8_isHour_16 rfl (Or.inl rfl) rfl
    · refine sr_iconst (pc' := 12) dX8_isHour_11 rfl (by decide) ?_
      refine sr_goto (pc' := 16) dX8_isHour_12 rfl ?_
      exact sr_iretZ dX8_isHour_16 rfl (Or.inr rfl) rfl
def roa_setFrost_28 (r : Nat)  (s1 : Int) (μ : Mem) : Option (Mem) := bnd (mset μ r 8 s1) fun μ1 => some μ1
theorem roa_setFrost_28_s {l : Launch} {G : Nv} {Sh : Shp} {r : Nat} (hr : IsRoad Sh r)   : ∀ (s1 : Int) (μ : Mem), SR l G Sh mX4_setFrost (roa_setFrost_28 r s1 μ) jM 28 [none, none, none] [vL s1, vR r] μ := by
  intro s1 μ
  unfold roa_setFrost_28
  refine sr_putL (k := 8) (pc' := 31) cls_X4 dX4_setFrost_28 rfl hr.1 rfl (by decide) w_11 rfl rfl (fun μ1 hμ1 => ?_)
  exact sr_ret dX4_setFrost_31 rfl rfl
def roa_setFrost (r : Nat)  (x1 x2 : Int) (μ : Mem) : Option (Mem) := if x2 = 0 then (roa_setFrost_28 r (lAnd (μ r 8) (lXor (lShl 1 x1) (-1))) μ) else (roa_setFrost_28 r (lOr (μ r 8) (lShl 1 x1)) μ)
theorem roa_setFrost_sp {l : Launch} {G : Nv} {Sh : Shp} {r : Nat} (hr : IsRoad Sh r) (x1 x2 : Int) (μ : Mem) : SP l G Sh mX4_setFrost [vR r, vI x1, vI x2] μ (roa_setFrost r x1 x2 μ) jM := by
  refine sp_go (lv := [some (vR r), some (vI x1), some (vI x2)]) pn_X4 (Nat.le_of_ble_eq_true rfl) rfl ?_
  unfold roa_setFrost
  refine sr_aload_n (i := 0) (pc' := 1) dX4_setFrost_0 rfl rfl rfl ?_
  refine sr_iload_n (i := 2) (pc' := 2) dX4_setFrost_1 rfl rfl rfl ?_
  refine sr_if_eq (pc' := 5) (tgt := 16) dX4_setFrost_2 rfl rfl (fun c2 => ?_) (fun c2 => ?_)
  · refine sr_aload_n (i := 0) (pc' := 17) dX4_setFrost_16 rfl rfl rfl ?_
    refine sr_getL (k := 8) (pc' := 20) cls_X4 dX4_setFrost_17 rfl hr.1 rfl (by decide) w_11 ?_
    refine sr_lconst (x := 1) (pc' := 21) dX4_setFrost_20 rfl (by decide) rfl ?_
    refine sr_iload_n (i := 1) (pc' := 22) dX4_setFrost_21 rfl rfl rfl ?_
    refine sr_lshl (pc' := 23) dX4_setFrost_22 rfl ?_
    refine sr_ldc2 (x := -1) (pc' := 26) dX4_setFrost_23 rfl (by decide) w_128 ?_
    refine sr_lxor (pc' := 27) dX4_setFrost_26 rfl ?_
    refine sr_land (pc' := 28) dX4_setFrost_27 rfl ?_
    refine sr_fgt (fgt_n (fgt_n (fgt_n fgt_nil))) ?_
    exact roa_setFrost_28_s hr (lAnd (μ r 8) (lXor (lShl 1 x1) (-1))) μ
  · refine sr_aload_n (i := 0) (pc' := 6) dX4_setFrost_5 rfl rfl rfl ?_
    refine sr_getL (k := 8) (pc' := 9) cls_X4 dX4_setFrost_6 rfl hr.1 rfl (by decide) w_11 ?_
    refine sr_lconst (x := 1) (pc' := 10) dX4_setFrost_9 rfl (by decide) rfl ?_
    refine sr_iload_n (i := 1) (pc' := 11) dX4_setFrost_10 rfl rfl rfl ?_
    refine sr_lshl (pc' := 12) dX4_setFrost_11 rfl ?_
    refine sr_lor (pc' := 13) dX4_setFrost_12 rfl ?_
    refine sr_goto (pc' := 28) dX4_setFrost_13 rfl ?_
    refine sr_fgt (fgt_n (fgt_n (fgt_n fgt_nil))) ?_
    exact roa_setFrost_28_s hr (lOr (μ r 8) (lShl 1 x1)) μ
def ww_freeze_25   (x1 x2 s0 : Int) (μ : Mem) : Option (Int × Mem) := (roa_setFrost 1 x1 x2 μ).bind fun μ1 => (pla_drop μ1).bind fun μ2 => some (s0, μ2)
theorem ww_freeze_25_s {l : Launch} {G : Nv}     : ∀ (x1 x2 s0 : Int) (μ : Mem), SR l G S88 mX8_freeze (ww_freeze_25 x1 x2 s0 μ) jIM 25 [some (vR 0), some (vI x1), some (vI x2), none] [vI s0] μ := by
  intro x1 x2 s0 μ
  unfold ww_freeze_25
  refine sr_istore_n (i := 3) (lv' := [some (vR 0), some (vI x1), some (vI x2), some (vI s0)]) (pc' := 26) dX8_freeze_25 rfl rfl (by decide) rfl ?_
  refine sr_aload_n (i := 0) (pc' := 27) dX8_freeze_26 rfl rfl rfl ?_
  refine sr_getR (k := 0) (b := 1) (pc' := 30) cls_X8 dX8_freeze_27 rfl s88_0 rfl (by decide) w_19 ?_
  refine sr_iload_n (i := 1) (pc' := 31) dX8_freeze_30 rfl rfl rfl ?_
  refine sr_iload_n (i := 2) (pc' := 32) dX8_freeze_31 rfl rfl rfl ?_
  refine sr_callVN2_M (pc' := 35) (roa_setFrost_sp isRoad_1 x1 x2 μ) dX8_freeze_32 rfl mg_X4_setFrost mi_X4_setFrost (Or.inl ⟨4, _, TX4, 12, isRoad_1.1, rfl⟩) ⟨Nat.le_of_ble_eq_true rfl, Nat.le_of_ble_eq_true rfl⟩ w_129 (Nat.le_of_ble_eq_true rfl) (fun μ1 hμ1 => ?_)
  refine sr_aload_n (i := 0) (pc' := 36) dX8_freeze_35 rfl rfl rfl ?_
  refine sr_getR (k := 6) (b := 46) (pc' := 39) cls_X8 dX8_freeze_36 rfl s88_0 rfl (by decide) w_22 ?_
  refine sr_callVN0_M (pc' := 42) (pla_drop_sp μ1) dX8_freeze_39 rfl mg_X2_drop mi_X2_drop (Or.inl ⟨2, _, TX2, 10, s88_46, rfl⟩) ⟨Nat.le_of_ble_eq_true rfl, Nat.le_of_ble_eq_true rfl⟩ w_23 (Nat.le_of_ble_eq_true rfl) (fun μ2 hμ2 => ?_)
  refine sr_iload_n (i := 3) (pc' := 43) dX8_freeze_42 rfl rfl rfl ?_
  exact sr_iretI dX8_freeze_43 rfl rfl
def ww_freeze   (x1 x2 : Int) (μ : Mem) : Option (Int × Mem) := (ww_isHour μ x1).bind fun u1 => if u1 = 0 then (some ((-1), μ)) else ((roa_isFrost 1 μ x1).bind fun u2 => if u2 = 0 then (ww_freeze_25 x1 x2 0 μ) else (ww_freeze_25 x1 x2 1 μ))
theorem ww_freeze_sp {l : Launch} {G : Nv}   (x1 x2 : Int) (μ : Mem) : SP l G S88 mX8_freeze [vR 0, vI x1, vI x2] μ (ww_freeze x1 x2 μ) jIM := by
  refine sp_go (lv := [some (vR 0), some (vI x1), some (vI x2), none]) pn_X8 (Nat.le_of_ble_eq_true rfl) rfl ?_
  unfold ww_freeze
  refine sr_iload_n (i := 1) (pc' := 1) dX8_freeze_0 rfl rfl rfl ?_
  refine sr_callS1_I (pc' := 4) (ww_isHour_sp x1 μ) dX8_freeze_1 rfl mg_X8_isHour ms_X8_isHour ⟨Nat.le_of_ble_eq_true rfl, Nat.le_of_ble_eq_true rfl⟩ w_130 (Nat.le_of_ble_eq_true rfl) (fun u1 hu1 hcu1 hzu1 => ?_)
  refine sr_if_ne (pc' := 7) (tgt := 9) dX8_freeze_4 rfl rfl (fun c4 => ?_) (fun c4 => ?_)
  · refine sr_iconst (pc' := 8) dX8_freeze_7 rfl (by decide) ?_
    exact sr_iretI dX8_freeze_8 rfl rfl
  · refine sr_aload_n (i := 0) (pc' := 10) dX8_freeze_9 rfl rfl rfl ?_
    refine sr_getR (k := 0) (b := 1) (pc' := 13) cls_X8 dX8_freeze_10 rfl s88_0 rfl (by decide) w_19 ?_
    refine sr_iload_n (i := 1) (pc' := 14) dX8_freeze_13 rfl rfl rfl ?_
    refine sr_callVN1_I (pc' := 17) (roa_isFrost_sp isRoad_1 x1 μ) dX8_freeze_14 rfl mg_X4_isFrost mi_X4_isFrost (Or.inl ⟨4, _, TX4, 12, isRoad_1.1, rfl⟩) ⟨Nat.le_of_ble_eq_true rfl, Nat.le_of_ble_eq_true rfl⟩ w_131 (Nat.le_of_ble_eq_true rfl) (fun u2 hu2 hcu2 hzu2 => ?_)
    refine sr_if_eq (pc' := 20) (tgt := 24) dX8_freeze_17 rfl rfl (fun c17 => ?_) (fun c17 => ?_)
    · refine sr_iconst (pc' := 25) dX8_freeze_24 rfl (by decide) ?_
      exact ww_freeze_25_s x1 x2 0 μ
    · refine sr_iconst (pc' := 21) dX8_freeze_20 rfl (by decide) ?_
      refine sr_goto (pc' := 25) dX8_freeze_21 rfl ?_
      exact ww_freeze_25_s x1 x2 1 μ
def ww_frost (μ : Mem)  (x1 : Int) : Option (Int) := (ww_isHour μ x1).bind fun u1 => if u1 = 0 then (some (-1)) else ((roa_isFrost 1 μ x1).bind fun u2 => if u2 = 0 then (some 0) else (some 1))
theorem ww_frost_sp {l : Launch} {G : Nv}   (x1 : Int) (μ : Mem) : SP l G S88 mX8_frost [vR 0, vI x1] μ (ww_frost μ x1) (jI μ) := by
  refine sp_go (lv := [some (vR 0), some (vI x1)]) pn_X8 (Nat.le_of_ble_eq_true rfl) rfl ?_
  unfold ww_frost
  refine sr_iload_n (i := 1) (pc' := 1) dX8_frost_0 rfl rfl rfl ?_
  refine sr_callS1_I (pc' := 4) (ww_isHour_sp x1 μ) dX8_frost_1 rfl mg_X8_isHour ms_X8_isHour ⟨Nat.le_of_ble_eq_true rfl, Nat.le_of_ble_eq_true rfl⟩ w_130 (Nat.le_of_ble_eq_true rfl) (fun u1 hu1 hcu1 hzu1 => ?_)
  refine sr_if_ne (pc' := 7) (tgt := 9) dX8_frost_4 rfl rfl (fun c4 => ?_) (fun c4 => ?_)
  · refine sr_iconst (pc' := 8) dX8_frost_7 rfl (by decide) ?_
    exact sr_iretI dX8_frost_8 rfl rfl
  · refine sr_aload_n (i := 0) (pc' := 10) dX8_frost_9 rfl rfl rfl ?_
    refine sr_getR (k := 0) (b := 1) (pc' := 13) cls_X8 dX8_frost_10 rfl s88_0 rfl (by decide) w_19 ?_
    refine sr_iload_n (i := 1) (pc' := 14) dX8_frost_13 rfl rfl rfl ?_
    refine sr_callVN1_I (pc' := 17) (roa_isFrost_sp isRoad_1 x1 μ) dX8_frost_14 rfl mg_X4_isFrost mi_X4_isFrost (Or.inl ⟨4, _, TX4, 12, isRoad_1.1, rfl⟩) ⟨Nat.le_of_ble_eq_true rfl, Nat.le_of_ble_eq_true rfl⟩ w_131 (Nat.le_of_ble_eq_true rfl) (fun u2 hu2 hcu2 hzu2 => ?_)
    refine sr_if_eq (pc' := 20) (tgt := 24) dX8_frost_17 rfl rfl (fun c17 => ?_) (fun c17 => ?_)
    · refine sr_iconst (pc' := 25) dX8_frost_24 rfl (by decide) ?_
      exact sr_iretI dX8_frost_25 rfl rfl
    · refine sr_iconst (pc' := 21) dX8_frost_20 rfl (by decide) ?_
      refine sr_goto (pc' := 25) dX8_frost_21 rfl ?_
      exact sr_iretI dX8_frost_25 rfl rfl
def roa_swapPart (r : Nat)  (x1 x2 x3 : Int) (μ : Mem) : Option (Int × Mem) := (ww_swap (r + 5) 35 (wI ((wI (x1 * 7)) + x2)) x3 μ).bind fun u1 => some (u1.1, u1.2)
theorem roa_swapPart_sp {l : Launch} {G : Nv} {Sh : Shp} {r : Nat} (hr : IsRoad Sh r) (x1 x2 x3 : Int) (μ : Mem) : SP l G Sh mX4_swapPart [vR r, vI x1, vI x2, vI x3] μ (roa_swapPart r x1 x2 x3 μ) jIM := by
  refine sp_go (lv := [some (vR r), some (vI x1), some (vI x2), some (vI x3)]) pn_X4 (Nat.le_of_ble_eq_true rfl) rfl ?_
  unfold roa_swapPart
  refine sr_aload_n (i := 0) (pc' := 1) dX4_swapPart_0 rfl rfl rfl ?_
  refine sr_getR (k := 4) (b := (r + 5)) (pc' := 4) cls_X4 dX4_swapPart_1 rfl hr.1 rfl (by decide) w_7 ?_
  refine sr_iload_n (i := 1) (pc' := 5) dX4_swapPart_4 rfl rfl rfl ?_
  refine sr_bipush (pc' := 7) dX4_swapPart_5 rfl (by decide) (by decide) ?_
  refine sr_imul (pc' := 8) dX4_swapPart_7 rfl ?_
  refine sr_iload_n (i := 2) (pc' := 9) dX4_swapPart_8 rfl rfl rfl ?_
  refine sr_iadd (pc' := 10) dX4_swapPart_9 rfl ?_
  refine sr_iload_n (i := 3) (pc' := 11) dX4_swapPart_10 rfl rfl rfl ?_
  refine sr_callSN3_IM (pc' := 14) (ww_swap_sp hr.2.2.2.2.2.1 (by decide) (wI ((wI (x1 * 7)) + x2)) x3 μ) dX4_swapPart_11 rfl mg_X8_swap ms_X8_swap ⟨Nat.le_of_ble_eq_true rfl, Nat.le_of_ble_eq_true rfl⟩ w_132 (Nat.le_of_ble_eq_true rfl) (fun u1 hu1 hcu1 hzu1 => ?_)
  exact sr_iretI dX4_swapPart_14 rfl rfl
def roa_moveCart_2 (r : Nat)  : Nat → Int → Int → Int → Mem → Option (Mem)
  | 0, _, _, _, _ => none
  | n + 1, x1, x2, x3, μ => if 7 ≤ x3 then (some μ) else ((roa_part r μ x1 x3).bind fun u1 => (roa_swapPart r x2 x3 u1 μ).bind fun u2 => roa_moveCart_2 r n x1 x2 (wI (x3 + 1)) u2.2)
theorem roa_moveCart_2_s {l : Launch} {G : Nv} {Sh : Shp} {r : Nat} (hr : IsRoad Sh r)   : ∀ (n : Nat) (x1 x2 x3 : Int) (μ : Mem), SR l G Sh mX4_moveCart (roa_moveCart_2 r n x1 x2 x3 μ) jM 2 [some (vR r), some (vI x1), some (vI x2), some (vI x3)] [] μ := by
  intro n
  induction n with
  | zero => intro x1 x2 x3 μ; exact sr_none
  | succ n ih =>
    intro x1 x2 x3 μ
    rw [roa_moveCart_2.eq_2]
    refine sr_iload_n (i := 3) (pc' := 3) dX4_moveCart_2 rfl rfl rfl ?_
    refine sr_bipush (pc' := 5) dX4_moveCart_3 rfl (by decide) (by decide) ?_
    refine sr_icmp_ge (pc' := 8) (tgt := 27) dX4_moveCart_5 rfl rfl (fun c5 => ?_) (fun c5 => ?_)
    · exact sr_ret dX4_moveCart_27 rfl rfl
    · refine sr_aload_n (i := 0) (pc' := 9) dX4_moveCart_8 rfl rfl rfl ?_
      refine sr_iload_n (i := 2) (pc' := 10) dX4_moveCart_9 rfl rfl rfl ?_
      refine sr_iload_n (i := 3) (pc' := 11) dX4_moveCart_10 rfl rfl rfl ?_
      refine sr_aload_n (i := 0) (pc' := 12) dX4_moveCart_11 rfl rfl rfl ?_
      refine sr_iload_n (i := 1) (pc' := 13) dX4_moveCart_12 rfl rfl rfl ?_
      refine sr_iload_n (i := 3) (pc' := 14) dX4_moveCart_13 rfl rfl rfl ?_
      refine sr_callV2_I (pc' := 17) (roa_part_sp hr x1 x3 μ) dX4_moveCart_14 rfl mg_X4_part mi_X4_part (Or.inl ⟨4, _, TX4, 12, hr.1, rfl⟩) ⟨Nat.le_of_ble_eq_true rfl, Nat.le_of_ble_eq_true rfl⟩ w_32 (Nat.le_of_ble_eq_true rfl) (fun u1 hu1 hcu1 hzu1 => ?_)
      refine sr_callV3_IM (pc' := 20) (roa_swapPart_sp hr x2 x3 u1 μ) dX4_moveCart_17 rfl mg_X4_swapPart mi_X4_swapPart (Or.inl ⟨4, _, TX4, 12, hr.1, rfl⟩) ⟨Nat.le_of_ble_eq_true rfl, Nat.le_of_ble_eq_true rfl⟩ w_133 (Nat.le_of_ble_eq_true rfl) (fun u2 hu2 hcu2 hzu2 => ?_)
      refine sr_pop (pc' := 21) dX4_moveCart_20 rfl rfl ?_
      refine sr_iinc (lv' := [some (vR r), some (vI x1), some (vI x2), some (vI (wI (x3 + 1)))]) (pc' := 24) dX4_moveCart_21 rfl (by decide) rfl rfl ?_
      refine sr_goto (pc' := 2) dX4_moveCart_24 rfl ?_
      exact ih x1 x2 (wI (x3 + 1)) u2.2
def roa_moveCart (r : Nat)  (x1 x2 : Int) (μ : Mem) : Option (Mem) := roa_moveCart_2 r BIG x1 x2 0 μ
theorem roa_moveCart_sp {l : Launch} {G : Nv} {Sh : Shp} {r : Nat} (hr : IsRoad Sh r) (x1 x2 : Int) (μ : Mem) : SP l G Sh mX4_moveCart [vR r, vI x1, vI x2] μ (roa_moveCart r x1 x2 μ) jM := by
  refine sp_go (lv := [some (vR r), some (vI x1), some (vI x2), none]) pn_X4 (Nat.le_of_ble_eq_true rfl) rfl ?_
  unfold roa_moveCart
  refine sr_iconst (pc' := 1) dX4_moveCart_0 rfl (by decide) ?_
  refine sr_istore_n (i := 3) (lv' := [some (vR r), some (vI x1), some (vI x2), some (vI 0)]) (pc' := 2) dX4_moveCart_1 rfl rfl (by decide) rfl ?_
  exact roa_moveCart_2_s hr BIG x1 x2 0 μ
def ww_go_118  (k51 : Int → Int → Mem → Option (Int × Mem)) (x2 x3 : Int) (μ : Mem) : Option (Int × Mem) := k51 x2 (wI (x3 + 1)) μ
theorem ww_go_118_s {l : Launch} {G : Nv}   {k51 : Int → Int → Mem → Option (Int × Mem)} (hk51 : ∀ (x2 x3 : Int) (μ : Mem) , SR l G S88 mX8_go (k51 x2 x3 μ) jIM 51 [some (vR 0), none, some (vI x2), some (vI x3)] [] μ) : ∀ (x2 x3 : Int) (μ : Mem), SR l G S88 mX8_go (ww_go_118 k51 x2 x3 μ) jIM 118 [some (vR 0), none, some (vI x2), some (vI x3)] [] μ := by
  intro x2 x3 μ
  unfold ww_go_118
  refine sr_iinc (lv' := [some (vR 0), none, some (vI x2), some (vI (wI (x3 + 1)))]) (pc' := 121) dX8_go_118 rfl (by decide) rfl rfl ?_
  refine sr_goto (pc' := 51) dX8_go_121 rfl ?_
  exact hk51 x2 (wI (x3 + 1)) μ
def ww_go_51   : Nat → Int → Int → Mem → Option (Int × Mem)
  | 0, _, _, _ => none
  | n + 1, x2, x3, μ => if (μ 1 10) ≤ x3 then (bnd (mset μ 1 10 x2) fun μ1 => (pla_drop μ1).bind fun μ2 => some (x2, μ2)) else ((run_isDone μ x3).bind fun u3 => if u3 = 0 then ((roa_moveCart 1 x3 x2 μ).bind fun μ4 => (ww_at 38 5 μ4 x3).bind fun u5 => (roa_swapPart 1 x2 4 u5 μ4).bind fun u6 => (roa_swapPart 1 x2 6 0 u6.2).bind fun u7 => ww_go_118 (ww_go_51 n) (wI (x2 + 1)) x3 u7.2) else (ww_go_118 (ww_go_51 n) x2 x3 μ))
theorem ww_go_51_s {l : Launch} {G : Nv}     : ∀ (n : Nat) (x2 x3 : Int) (μ : Mem), SR l G S88 mX8_go (ww_go_51 n x2 x3 μ) jIM 51 [some (vR 0), none, some (vI x2), some (vI x3)] [] μ := by
  intro n
  induction n with
  | zero => intro x2 x3 μ; exact sr_none
  | succ n ih =>
    intro x2 x3 μ
    rw [ww_go_51.eq_2]
    refine sr_iload_n (i := 3) (pc' := 52) dX8_go_51 rfl rfl rfl ?_
    refine sr_aload_n (i := 0) (pc' := 53) dX8_go_52 rfl rfl rfl ?_
    refine sr_getR (k := 0) (b := 1) (pc' := 56) cls_X8 dX8_go_53 rfl s88_0 rfl (by decide) w_19 ?_
    refine sr_getI (k := 10) (pc' := 59) cls_X4 dX8_go_56 rfl isRoad_1.1 rfl (by decide) w_24 ?_
    refine sr_icmp_ge (pc' := 62) (tgt := 124) dX8_go_59 rfl rfl (fun c59 => ?_) (fun c59 => ?_)
    · refine sr_aload_n (i := 0) (pc' := 125) dX8_go_124 rfl rfl rfl ?_
      refine sr_getR (k := 0) (b := 1) (pc' := 128) cls_X8 dX8_go_125 rfl s88_0 rfl (by decide) w_19 ?_
      refine sr_iload_n (i := 2) (pc' := 129) dX8_go_128 rfl rfl rfl ?_
      refine sr_putI (k := 10) (pc' := 132) cls_X4 dX8_go_129 rfl isRoad_1.1 rfl (by decide) w_24 rfl rfl (fun μ1 hμ1 => ?_)
      refine sr_aload_n (i := 0) (pc' := 133) dX8_go_132 rfl rfl rfl ?_
      refine sr_getR (k := 6) (b := 46) (pc' := 136) cls_X8 dX8_go_133 rfl s88_0 rfl (by decide) w_22 ?_
      refine sr_callVN0_M (pc' := 139) (pla_drop_sp μ1) dX8_go_136 rfl mg_X2_drop mi_X2_drop (Or.inl ⟨2, _, TX2, 10, s88_46, rfl⟩) ⟨Nat.le_of_ble_eq_true rfl, Nat.le_of_ble_eq_true rfl⟩ w_23 (Nat.le_of_ble_eq_true rfl) (fun μ2 hμ2 => ?_)
      refine sr_iload_n (i := 2) (pc' := 140) dX8_go_139 rfl rfl rfl ?_
      exact sr_iretI dX8_go_140 rfl rfl
    · refine sr_aload_n (i := 0) (pc' := 63) dX8_go_62 rfl rfl rfl ?_
      refine sr_getR (k := 4) (b := 35) (pc' := 66) cls_X8 dX8_go_63 rfl s88_0 rfl (by decide) w_106 ?_
      refine sr_iload_n (i := 3) (pc' := 67) dX8_go_66 rfl rfl rfl ?_
      refine sr_callVN1_I (pc' := 70) (run_isDone_sp x3 μ) dX8_go_67 rfl mg_X5_isDone mi_X5_isDone (Or.inl ⟨5, _, TX5, 13, s88_35, rfl⟩) ⟨Nat.le_of_ble_eq_true rfl, Nat.le_of_ble_eq_true rfl⟩ w_119 (Nat.le_of_ble_eq_true rfl) (fun u3 hu3 hcu3 hzu3 => ?_)
      refine sr_if_ne (pc' := 73) (tgt := 118) dX8_go_70 rfl rfl (fun c70 => ?_) (fun c70 => ?_)
      · refine sr_aload_n (i := 0) (pc' := 74) dX8_go_73 rfl rfl rfl ?_
        refine sr_getR (k := 0) (b := 1) (pc' := 77) cls_X8 dX8_go_74 rfl s88_0 rfl (by decide) w_19 ?_
        refine sr_iload_n (i := 3) (pc' := 78) dX8_go_77 rfl rfl rfl ?_
        refine sr_iload_n (i := 2) (pc' := 79) dX8_go_78 rfl rfl rfl ?_
        refine sr_callVN2_M (pc' := 82) (roa_moveCart_sp isRoad_1 x3 x2 μ) dX8_go_79 rfl mg_X4_moveCart mi_X4_moveCart (Or.inl ⟨4, _, TX4, 12, isRoad_1.1, rfl⟩) ⟨Nat.le_of_ble_eq_true rfl, Nat.le_of_ble_eq_true rfl⟩ w_134 (Nat.le_of_ble_eq_true rfl) (fun μ4 hμ4 => ?_)
        refine sr_aload_n (i := 0) (pc' := 83) dX8_go_82 rfl rfl rfl ?_
        refine sr_getR (k := 0) (b := 1) (pc' := 86) cls_X8 dX8_go_83 rfl s88_0 rfl (by decide) w_19 ?_
        refine sr_iload_n (i := 2) (pc' := 87) dX8_go_86 rfl rfl rfl ?_
        refine sr_iconst (pc' := 88) dX8_go_87 rfl (by decide) ?_
        refine sr_aload_n (i := 0) (pc' := 89) dX8_go_88 rfl rfl rfl ?_
        refine sr_getR (k := 4) (b := 35) (pc' := 92) cls_X8 dX8_go_89 rfl s88_0 rfl (by decide) w_106 ?_
        refine sr_getRN (k := 2) (b := 38) (pc' := 95) cls_X5 dX8_go_92 rfl s88_35 rfl (by decide) w_135 ?_
        refine sr_iload_n (i := 3) (pc' := 96) dX8_go_95 rfl rfl rfl ?_
        refine sr_callS2_I (pc' := 99) (ww_at_sp s88_38 (by decide) x3 μ4) dX8_go_96 rfl mg_X8_at ms_X8_at ⟨Nat.le_of_ble_eq_true rfl, Nat.le_of_ble_eq_true rfl⟩ w_48 (Nat.le_of_ble_eq_true rfl) (fun u5 hu5 hcu5 hzu5 => ?_)
        refine sr_callVN3_IM (pc' := 102) (roa_swapPart_sp isRoad_1 x2 4 u5 μ4) dX8_go_99 rfl mg_X4_swapPart mi_X4_swapPart (Or.inl ⟨4, _, TX4, 12, isRoad_1.1, rfl⟩) ⟨Nat.le_of_ble_eq_true rfl, Nat.le_of_ble_eq_true rfl⟩ w_136 (Nat.le_of_ble_eq_true rfl) (fun u6 hu6 hcu6 hzu6 => ?_)
        refine sr_pop (pc' := 103) dX8_go_102 rfl rfl ?_
        refine sr_aload_n (i := 0) (pc' := 104) dX8_go_103 rfl rfl rfl ?_
        refine sr_getR (k := 0) (b := 1) (pc' := 107) cls_X8 dX8_go_104 rfl s88_0 rfl (by decide) w_19 ?_
        refine sr_iload_n (i := 2) (pc' := 108) dX8_go_107 rfl rfl rfl ?_
        refine sr_bipush (pc' := 110) dX8_go_108 rfl (by decide) (by decide) ?_
        refine sr_iconst (pc' := 111) dX8_go_110 rfl (by decide) ?_
        refine sr_callVN3_IM (pc' := 114) (roa_swapPart_sp isRoad_1 x2 6 0 u6.2) dX8_go_111 rfl mg_X4_swapPart mi_X4_swapPart (Or.inl ⟨4, _, TX4, 12, isRoad_1.1, rfl⟩) ⟨Nat.le_of_ble_eq_true rfl, Nat.le_of_ble_eq_true rfl⟩ w_136 (Nat.le_of_ble_eq_true rfl) (fun u7 hu7 hcu7 hzu7 => ?_)
        refine sr_pop (pc' := 115) dX8_go_114 rfl rfl ?_
        refine sr_iinc (lv' := [some (vR 0), none, some (vI (wI (x2 + 1))), some (vI x3)]) (pc' := 118) dX8_go_115 rfl (by decide) rfl rfl ?_
        exact ww_go_118_s ih (wI (x2 + 1)) x3 u7.2
      · exact ww_go_118_s ih x2 x3 μ
def ww_go_16   : Nat → Int → Mem → Option (Int × Mem)
  | 0, _, _ => none
  | n + 1, x2, μ => if 63 ≤ x2 then (ww_go_51 BIG 0 0 μ) else ((run_depthOf μ x2).bind fun u1 => (ww_put 5 63 x2 u1 μ).bind fun μ2 => ww_go_16 n (wI (x2 + 1)) μ2)
theorem ww_go_16_s {l : Launch} {G : Nv}     : ∀ (n : Nat) (x2 : Int) (μ : Mem), SR l G S88 mX8_go (ww_go_16 n x2 μ) jIM 16 [some (vR 0), none, some (vI x2), none] [] μ := by
  intro n
  induction n with
  | zero => intro x2 μ; exact sr_none
  | succ n ih =>
    intro x2 μ
    rw [ww_go_16.eq_2]
    refine sr_iload_n (i := 2) (pc' := 17) dX8_go_16 rfl rfl rfl ?_
    refine sr_bipush (pc' := 19) dX8_go_17 rfl (by decide) (by decide) ?_
    refine sr_icmp_ge (pc' := 22) (tgt := 47) dX8_go_19 rfl rfl (fun c19 => ?_) (fun c19 => ?_)
    · refine sr_iconst (pc' := 48) dX8_go_47 rfl (by decide) ?_
      refine sr_istore_n (i := 2) (lv' := [some (vR 0), none, some (vI 0), none]) (pc' := 49) dX8_go_48 rfl rfl (by decide) rfl ?_
      refine sr_iconst (pc' := 50) dX8_go_49 rfl (by decide) ?_
      refine sr_istore_n (i := 3) (lv' := [some (vR 0), none, some (vI 0), some (vI 0)]) (pc' := 51) dX8_go_50 rfl rfl (by decide) rfl ?_
      exact ww_go_51_s BIG 0 0 μ
    · refine sr_aload_n (i := 0) (pc' := 23) dX8_go_22 rfl rfl rfl ?_
      refine sr_getR (k := 0) (b := 1) (pc' := 26) cls_X8 dX8_go_23 rfl s88_0 rfl (by decide) w_19 ?_
      refine sr_getR (k := 3) (b := 5) (pc' := 29) cls_X4 dX8_go_26 rfl isRoad_1.1 rfl (by decide) w_117 ?_
      refine sr_iload_n (i := 2) (pc' := 30) dX8_go_29 rfl rfl rfl ?_
      refine sr_aload_n (i := 0) (pc' := 31) dX8_go_30 rfl rfl rfl ?_
      refine sr_getR (k := 4) (b := 35) (pc' := 34) cls_X8 dX8_go_31 rfl s88_0 rfl (by decide) w_106 ?_
      refine sr_iload_n (i := 2) (pc' := 35) dX8_go_34 rfl rfl rfl ?_
      refine sr_callVN1_I (pc' := 38) (run_depthOf_sp x2 μ) dX8_go_35 rfl mg_X5_depthOf mi_X5_depthOf (Or.inl ⟨5, _, TX5, 13, s88_35, rfl⟩) ⟨Nat.le_of_ble_eq_true rfl, Nat.le_of_ble_eq_true rfl⟩ w_110 (Nat.le_of_ble_eq_true rfl) (fun u1 hu1 hcu1 hzu1 => ?_)
      refine sr_callS3_M (pc' := 41) (ww_put_sp isRoad_1.2.2.2.2.1 (by decide) x2 u1 μ) dX8_go_38 rfl mg_X8_put ms_X8_put ⟨Nat.le_of_ble_eq_true rfl, Nat.le_of_ble_eq_true rfl⟩ w_116 (Nat.le_of_ble_eq_true rfl) (fun μ2 hμ2 => ?_)
      refine sr_iinc (lv' := [some (vR 0), none, some (vI (wI (x2 + 1))), none]) (pc' := 44) dX8_go_41 rfl (by decide) rfl rfl ?_
      refine sr_goto (pc' := 16) dX8_go_44 rfl ?_
      exact ih (wI (x2 + 1)) μ2
def ww_go   (x1 : Int) (μ : Mem) : Option (Int × Mem) := (ww_isBehind μ x1).bind fun u1 => if u1 = 0 then (some ((-1), μ)) else ((ww_runUpTo x1 μ).bind fun μ2 => ww_go_16 BIG 0 μ2)
theorem ww_go_sp {l : Launch} {G : Nv}   (x1 : Int) (μ : Mem) : SP l G S88 mX8_go [vR 0, vI x1] μ (ww_go x1 μ) jIM := by
  refine sp_go (lv := [some (vR 0), some (vI x1), none, none]) pn_X8 (Nat.le_of_ble_eq_true rfl) rfl ?_
  unfold ww_go
  refine sr_iload_n (i := 1) (pc' := 1) dX8_go_0 rfl rfl rfl ?_
  refine sr_callS1_I (pc' := 4) (ww_isBehind_sp x1 μ) dX8_go_1 rfl mg_X8_isBehind ms_X8_isBehind ⟨Nat.le_of_ble_eq_true rfl, Nat.le_of_ble_eq_true rfl⟩ w_111 (Nat.le_of_ble_eq_true rfl) (fun u1 hu1 hcu1 hzu1 => ?_)
  refine sr_if_ne (pc' := 7) (tgt := 9) dX8_go_4 rfl rfl (fun c4 => ?_) (fun c4 => ?_)
  · refine sr_iconst (pc' := 8) dX8_go_7 rfl (by decide) ?_
    exact sr_iretI dX8_go_8 rfl rfl
  · refine sr_aload_n (i := 0) (pc' := 10) dX8_go_9 rfl rfl rfl ?_
    refine sr_iload_n (i := 1) (pc' := 11) dX8_go_10 rfl rfl rfl ?_
    refine sr_callV1_M (pc' := 14) (ww_runUpTo_sp x1 μ) dX8_go_11 rfl mg_X8_runUpTo mi_X8_runUpTo (Or.inl ⟨8, _, TX8, 11, s88_0, rfl⟩) ⟨Nat.le_of_ble_eq_true rfl, Nat.le_of_ble_eq_true rfl⟩ w_112 (Nat.le_of_ble_eq_true rfl) (fun μ2 hμ2 => ?_)
    refine sr_iconst (pc' := 15) dX8_go_14 rfl (by decide) ?_
    refine sr_istore_n (i := 2) (lv' := [some (vR 0), some (vI x1), some (vI 0), none]) (pc' := 16) dX8_go_15 rfl rfl (by decide) rfl ?_
    refine sr_fgt (fgt_s (fgt_n (fgt_s (fgt_s fgt_nil)))) ?_
    exact ww_go_16_s BIG 0 μ2
def ww_jam   (x1 : Int) (μ : Mem) : Option (Int × Mem) := (ww_isHour μ x1).bind fun u1 => if u1 = 0 then (some ((-1), μ)) else ((ww_runUpTo x1 μ).bind fun μ2 => some (μ2 35 12, μ2))
theorem ww_jam_sp {l : Launch} {G : Nv}   (x1 : Int) (μ : Mem) : SP l G S88 mX8_jam [vR 0, vI x1] μ (ww_jam x1 μ) jIM := by
  refine sp_go (lv := [some (vR 0), some (vI x1)]) pn_X8 (Nat.le_of_ble_eq_true rfl) rfl ?_
  unfold ww_jam
  refine sr_iload_n (i := 1) (pc' := 1) dX8_jam_0 rfl rfl rfl ?_
  refine sr_callS1_I (pc' := 4) (ww_isHour_sp x1 μ) dX8_jam_1 rfl mg_X8_isHour ms_X8_isHour ⟨Nat.le_of_ble_eq_true rfl, Nat.le_of_ble_eq_true rfl⟩ w_130 (Nat.le_of_ble_eq_true rfl) (fun u1 hu1 hcu1 hzu1 => ?_)
  refine sr_if_ne (pc' := 7) (tgt := 9) dX8_jam_4 rfl rfl (fun c4 => ?_) (fun c4 => ?_)
  · refine sr_iconst (pc' := 8) dX8_jam_7 rfl (by decide) ?_
    exact sr_iretI dX8_jam_8 rfl rfl
  · refine sr_aload_n (i := 0) (pc' := 10) dX8_jam_9 rfl rfl rfl ?_
    refine sr_iload_n (i := 1) (pc' := 11) dX8_jam_10 rfl rfl rfl ?_
    refine sr_callV1_M (pc' := 14) (ww_runUpTo_sp x1 μ) dX8_jam_11 rfl mg_X8_runUpTo mi_X8_runUpTo (Or.inl ⟨8, _, TX8, 11, s88_0, rfl⟩) ⟨Nat.le_of_ble_eq_true rfl, Nat.le_of_ble_eq_true rfl⟩ w_112 (Nat.le_of_ble_eq_true rfl) (fun μ2 hμ2 => ?_)
    refine sr_aload_n (i := 0) (pc' := 15) dX8_jam_14 rfl rfl rfl ?_
    refine sr_getR (k := 4) (b := 35) (pc' := 18) cls_X8 dX8_jam_15 rfl s88_0 rfl (by decide) w_106 ?_
    refine sr_getIN (k := 12) (pc' := 21) cls_X5 dX8_jam_18 rfl s88_35 rfl (by decide) w_137 ?_
    exact sr_iretI dX8_jam_21 rfl rfl
def ww_keep   (x1 : Int) (μ : Mem) : Option (Int × Mem) := (ww_isImage μ x1).bind fun u1 => if u1 = 0 then (some ((-1), μ)) else (bnd (iAnd (iShr (μ 0 10) x1) 1) fun v2 => (ww_image μ x1).bind fun u3 => (roa_copyFrom u3 1 μ).bind fun μ4 => bnd (mset μ4 0 10 (iOr (μ4 0 10) (iShl 1 x1))) fun μ5 => some (v2, μ5))
theorem ww_keep_sp {l : Launch} {G : Nv}   (x1 : Int) (μ : Mem) : SP l G S88 mX8_keep [vR 0, vI x1] μ (ww_keep x1 μ) jIM := by
  refine sp_go (lv := [some (vR 0), some (vI x1), none]) pn_X8 (Nat.le_of_ble_eq_true rfl) rfl ?_
  unfold ww_keep
  refine sr_iload_n (i := 1) (pc' := 1) dX8_keep_0 rfl rfl rfl ?_
  refine sr_callS1_I (pc' := 4) (ww_isImage_sp x1 μ) dX8_keep_1 rfl mg_X8_isImage ms_X8_isImage ⟨Nat.le_of_ble_eq_true rfl, Nat.le_of_ble_eq_true rfl⟩ w_17 (Nat.le_of_ble_eq_true rfl) (fun u1 hu1 hcu1 hzu1 => ?_)
  refine sr_if_ne (pc' := 7) (tgt := 9) dX8_keep_4 rfl rfl (fun c4 => ?_) (fun c4 => ?_)
  · refine sr_iconst (pc' := 8) dX8_keep_7 rfl (by decide) ?_
    exact sr_iretI dX8_keep_8 rfl rfl
  · refine sr_aload_n (i := 0) (pc' := 10) dX8_keep_9 rfl rfl rfl ?_
    refine sr_getI (k := 10) (pc' := 13) cls_X8 dX8_keep_10 rfl s88_0 rfl (by decide) w_18 ?_
    refine sr_iload_n (i := 1) (pc' := 14) dX8_keep_13 rfl rfl rfl ?_
    refine sr_ishr (pc' := 15) dX8_keep_14 rfl ?_
    refine sr_iconst (pc' := 16) dX8_keep_15 rfl (by decide) ?_
    refine sr_iand (pc' := 17) dX8_keep_16 rfl ?_
    refine sr_bnd (fun v2 hv2 => ?_)
    refine sr_istore_n (i := 2) (lv' := [some (vR 0), some (vI x1), some (vI v2)]) (pc' := 18) dX8_keep_17 rfl rfl (by decide) rfl ?_
    refine sr_aload_n (i := 0) (pc' := 19) dX8_keep_18 rfl rfl rfl ?_
    refine sr_iload_n (i := 1) (pc' := 20) dX8_keep_19 rfl rfl rfl ?_
    refine sr_callV1_R (pc' := 23) (ww_image_sp x1 μ) dX8_keep_20 rfl mg_X8_image mi_X8_image (Or.inl ⟨8, _, TX8, 11, s88_0, rfl⟩) ⟨Nat.le_of_ble_eq_true rfl, Nat.le_of_ble_eq_true rfl⟩ w_20 (Nat.le_of_ble_eq_true rfl) (fun u3 hu3 => ?_)
    have hRu3 : IsRoad S88 u3 := image_road hu3
    refine sr_aload_n (i := 0) (pc' := 24) dX8_keep_23 rfl rfl rfl ?_
    refine sr_getR (k := 0) (b := 1) (pc' := 27) cls_X8 dX8_keep_24 rfl s88_0 rfl (by decide) w_19 ?_
    refine sr_callVN1_M (pc' := 30) (roa_copyFrom_sp hRu3 isRoad_1 μ) dX8_keep_27 rfl mg_X4_copyFrom mi_X4_copyFrom (Or.inl ⟨4, _, TX4, 12, hRu3.1, rfl⟩) ⟨Nat.le_of_ble_eq_true rfl, Nat.le_of_ble_eq_true rfl⟩ w_21 (Nat.le_of_ble_eq_true rfl) (fun μ4 hμ4 => ?_)
    refine sr_aload_n (i := 0) (pc' := 31) dX8_keep_30 rfl rfl rfl ?_
    refine sr_dup (pc' := 32) dX8_keep_31 rfl rfl ?_
    refine sr_getI (k := 10) (pc' := 35) cls_X8 dX8_keep_32 rfl s88_0 rfl (by decide) w_18 ?_
    refine sr_iconst (pc' := 36) dX8_keep_35 rfl (by decide) ?_
    refine sr_iload_n (i := 1) (pc' := 37) dX8_keep_36 rfl rfl rfl ?_
    refine sr_ishl (pc' := 38) dX8_keep_37 rfl ?_
    refine sr_ior (pc' := 39) dX8_keep_38 rfl ?_
    refine sr_putI (k := 10) (pc' := 42) cls_X8 dX8_keep_39 rfl s88_0 rfl (by decide) w_18 rfl rfl (fun μ5 hμ5 => ?_)
    refine sr_iload_n (i := 2) (pc' := 43) dX8_keep_42 rfl rfl rfl ?_
    exact sr_iretI dX8_keep_43 rfl rfl
def she_isSheet (μ : Mem)  (x0 : Int) : Option (Int) := if x0 < 0 then (some 0) else (if 4 ≤ x0 then (some 0) else (some 1))
theorem she_isSheet_sp {l : Launch} {G : Nv} {Sh : Shp}   (x0 : Int) (μ : Mem) : SP l G Sh mX6_isSheet [vI x0] μ (she_isSheet μ x0) (jI μ) := by
  refine sp_go (lv := [some (vI x0)]) pn_X6 (Nat.le_of_ble_eq_true rfl) rfl ?_
  unfold she_isSheet
  refine sr_iload_n (i := 0) (pc' := 1) dX6_isSheet_0 rfl rfl rfl ?_
  refine sr_if_lt (pc' := 4) (tgt := 13) dX6_isSheet_1 rfl rfl (fun c1 => ?_) (fun c1 => ?_)
  · refine sr_iconst (pc' := 14) dX6_isSheet_13 rfl (by decide) ?_
    exact sr_iretZ dX6_isSheet_14 rfl (Or.inl rfl) rfl
  · refine sr_iload_n (i := 0) (pc' := 5) dX6_isSheet_4 rfl rfl rfl ?_
    refine sr_iconst (pc' := 6) dX6_isSheet_5 rfl (by decide) ?_
    refine sr_icmp_ge (pc' := 9) (tgt := 13) dX6_isSheet_6 rfl rfl (fun c6 => ?_) (fun c6 => ?_)
    · refine sr_iconst (pc' := 14) dX6_isSheet_13 rfl (by decide) ?_
      exact sr_iretZ dX6_isSheet_14 rfl (Or.inl rfl) rfl
    · refine sr_iconst (pc' := 10) dX6_isSheet_9 rfl (by decide) ?_
      refine sr_goto (pc' := 14) dX6_isSheet_10 rfl ?_
      exact sr_iretZ dX6_isSheet_14 rfl (Or.inr rfl) rfl
def she_faultOf (μ : Mem)  (x1 x2 : Int) : Option (Int) := (she_cellsOf μ x1).bind fun u1 => if 0 ≤ u1 then (if x2 < 0 then (some 2) else ((she_cellsOf μ x1).bind fun u2 => if x2 < u2 then (some 0) else (some 2))) else (some 1)
theorem she_faultOf_sp {l : Launch} {G : Nv}   (x1 x2 : Int) (μ : Mem) : SP l G S88 mX6_faultOf [vR 57, vI x1, vI x2] μ (she_faultOf μ x1 x2) (jI μ) := by
  refine sp_go (lv := [some (vR 57), some (vI x1), some (vI x2)]) pn_X6 (Nat.le_of_ble_eq_true rfl) rfl ?_
  unfold she_faultOf
  refine sr_aload_n (i := 0) (pc' := 1) dX6_faultOf_0 rfl rfl rfl ?_
  refine sr_iload_n (i := 1) (pc' := 2) dX6_faultOf_1 rfl rfl rfl ?_
  refine sr_callV1_I (pc' := 5) (she_cellsOf_sp x1 μ) dX6_faultOf_2 rfl mg_X6_cellsOf mi_X6_cellsOf (Or.inl ⟨6, _, TX6, 4, s88_57, rfl⟩) ⟨Nat.le_of_ble_eq_true rfl, Nat.le_of_ble_eq_true rfl⟩ w_138 (Nat.le_of_ble_eq_true rfl) (fun u1 hu1 hcu1 hzu1 => ?_)
  refine sr_if_ge (pc' := 8) (tgt := 10) dX6_faultOf_5 rfl rfl (fun c5 => ?_) (fun c5 => ?_)
  · refine sr_iload_n (i := 2) (pc' := 11) dX6_faultOf_10 rfl rfl rfl ?_
    refine sr_if_lt (pc' := 14) (tgt := 23) dX6_faultOf_11 rfl rfl (fun c11 => ?_) (fun c11 => ?_)
    · refine sr_iconst (pc' := 24) dX6_faultOf_23 rfl (by decide) ?_
      refine sr_goto (pc' := 28) dX6_faultOf_24 rfl ?_
      exact sr_iretI dX6_faultOf_28 rfl rfl
    · refine sr_iload_n (i := 2) (pc' := 15) dX6_faultOf_14 rfl rfl rfl ?_
      refine sr_aload_n (i := 0) (pc' := 16) dX6_faultOf_15 rfl rfl rfl ?_
      refine sr_iload_n (i := 1) (pc' := 17) dX6_faultOf_16 rfl rfl rfl ?_
      refine sr_callV1_I (pc' := 20) (she_cellsOf_sp x1 μ) dX6_faultOf_17 rfl mg_X6_cellsOf mi_X6_cellsOf (Or.inl ⟨6, _, TX6, 4, s88_57, rfl⟩) ⟨Nat.le_of_ble_eq_true rfl, Nat.le_of_ble_eq_true rfl⟩ w_138 (Nat.le_of_ble_eq_true rfl) (fun u2 hu2 hcu2 hzu2 => ?_)
      refine sr_icmp_lt (pc' := 23) (tgt := 27) dX6_faultOf_20 rfl rfl (fun c20 => ?_) (fun c20 => ?_)
      · refine sr_iconst (pc' := 28) dX6_faultOf_27 rfl (by decide) ?_
        exact sr_iretI dX6_faultOf_28 rfl rfl
      · refine sr_iconst (pc' := 24) dX6_faultOf_23 rfl (by decide) ?_
        refine sr_goto (pc' := 28) dX6_faultOf_24 rfl ?_
        exact sr_iretI dX6_faultOf_28 rfl rfl
  · refine sr_iconst (pc' := 9) dX6_faultOf_8 rfl (by decide) ?_
    exact sr_iretI dX6_faultOf_9 rfl rfl
def she_set_32   (x1 x2 s0 : Int) (μ : Mem) : Option (Mem) := (ww_put 58 160 (wI ((wI (x1 * 40)) + x2)) s0 μ).bind fun μ1 => some μ1
theorem she_set_32_s {l : Launch} {G : Nv}     : ∀ (x1 x2 s0 : Int) (μ : Mem), SR l G S88 mX6_set (she_set_32 x1 x2 s0 μ) jM 32 [some (vR 57), some (vI x1), some (vI x2), none, none, none] [vI s0] μ := by
  intro x1 x2 s0 μ
  unfold she_set_32
  refine sr_istore (lv' := [some (vR 57), some (vI x1), some (vI x2), none, none, some (vI s0)]) (pc' := 34) dX6_set_32 rfl (by decide) rfl ?_
  refine sr_aload_n (i := 0) (pc' := 35) dX6_set_34 rfl rfl rfl ?_
  refine sr_getR (k := 0) (b := 58) (pc' := 38) cls_X6 dX6_set_35 rfl s88_57 rfl (by decide) w_139 ?_
  refine sr_iload_n (i := 1) (pc' := 39) dX6_set_38 rfl rfl rfl ?_
  refine sr_bipush (pc' := 41) dX6_set_39 rfl (by decide) (by decide) ?_
  refine sr_imul (pc' := 42) dX6_set_41 rfl ?_
  refine sr_iload_n (i := 2) (pc' := 43) dX6_set_42 rfl rfl rfl ?_
  refine sr_iadd (pc' := 44) dX6_set_43 rfl ?_
  refine sr_iload (pc' := 46) dX6_set_44 rfl rfl ?_
  refine sr_callSN3_M (pc' := 49) (ww_put_sp s88_58 (by decide) (wI ((wI (x1 * 40)) + x2)) s0 μ) dX6_set_46 rfl mg_X8_put ms_X8_put ⟨Nat.le_of_ble_eq_true rfl, Nat.le_of_ble_eq_true rfl⟩ w_140 (Nat.le_of_ble_eq_true rfl) (fun μ1 hμ1 => ?_)
  exact sr_ret dX6_set_49 rfl rfl
def she_set   (x1 x2 x3 : Int) (μ : Mem) : Option (Mem) := (ww_at 59 4 μ x1).bind fun u1 => if u1 = 0 then (she_set_32 x1 x2 (i2b x3) μ) else (if u1 = 1 then (she_set_32 x1 x2 (i2s x3) μ) else (she_set_32 x1 x2 x3 μ))
theorem she_set_sp {l : Launch} {G : Nv}   (x1 x2 x3 : Int) (μ : Mem) : SP l G S88 mX6_set [vR 57, vI x1, vI x2, vI x3] μ (she_set x1 x2 x3 μ) jM := by
  refine sp_go (lv := [some (vR 57), some (vI x1), some (vI x2), some (vI x3), none, none]) pn_X6 (Nat.le_of_ble_eq_true rfl) rfl ?_
  unfold she_set
  refine sr_aload_n (i := 0) (pc' := 1) dX6_set_0 rfl rfl rfl ?_
  refine sr_getR (k := 1) (b := 59) (pc' := 4) cls_X6 dX6_set_1 rfl s88_57 rfl (by decide) w_141 ?_
  refine sr_iload_n (i := 1) (pc' := 5) dX6_set_4 rfl rfl rfl ?_
  refine sr_callSN2_I (pc' := 8) (ww_at_sp s88_59 (by decide) x1 μ) dX6_set_5 rfl mg_X8_at ms_X8_at ⟨Nat.le_of_ble_eq_true rfl, Nat.le_of_ble_eq_true rfl⟩ w_142 (Nat.le_of_ble_eq_true rfl) (fun u1 hu1 hcu1 hzu1 => ?_)
  refine sr_istore (lv' := [some (vR 57), some (vI x1), some (vI x2), some (vI x3), some (vI u1), none]) (pc' := 10) dX6_set_8 rfl (by decide) rfl ?_
  refine sr_iload (pc' := 12) dX6_set_10 rfl rfl ?_
  refine sr_if_ne (pc' := 15) (tgt := 20) dX6_set_12 rfl rfl (fun c12 => ?_) (fun c12 => ?_)
  · refine sr_iload_n (i := 3) (pc' := 16) dX6_set_15 rfl rfl rfl ?_
    refine sr_i2b (pc' := 17) dX6_set_16 rfl ?_
    refine sr_goto (pc' := 32) dX6_set_17 rfl ?_
    refine sr_fgt (fgt_s (fgt_s (fgt_s (fgt_n (fgt_n (fgt_s fgt_nil)))))) ?_
    exact she_set_32_s x1 x2 (i2b x3) μ
  · refine sr_iload (pc' := 22) dX6_set_20 rfl rfl ?_
    refine sr_iconst (pc' := 23) dX6_set_22 rfl (by decide) ?_
    refine sr_icmp_ne (pc' := 26) (tgt := 31) dX6_set_23 rfl rfl (fun c23 => ?_) (fun c23 => ?_)
    · refine sr_iload_n (i := 3) (pc' := 27) dX6_set_26 rfl rfl rfl ?_
      refine sr_i2s (pc' := 28) dX6_set_27 rfl ?_
      refine sr_goto (pc' := 32) dX6_set_28 rfl ?_
      refine sr_fgt (fgt_s (fgt_s (fgt_s (fgt_n (fgt_n (fgt_s fgt_nil)))))) ?_
      exact she_set_32_s x1 x2 (i2s x3) μ
    · refine sr_iload_n (i := 3) (pc' := 32) dX6_set_31 rfl rfl rfl ?_
      refine sr_fgt (fgt_s (fgt_s (fgt_s (fgt_n (fgt_n (fgt_s fgt_nil)))))) ?_
      exact she_set_32_s x1 x2 x3 μ
def ww_lay   (x1 x2 x3 : Int) (μ : Mem) : Option (Int × Mem) := (she_isSheet μ x1).bind fun u1 => if u1 = 0 then (some ((-1), μ)) else ((she_faultOf μ x1 x2).bind fun u2 => if u2 = 0 then ((she_set x1 x2 x3 μ).bind fun μ3 => some (1, μ3)) else (some (wI ((-10) - u2), μ)))
theorem ww_lay_sp {l : Launch} {G : Nv}   (x1 x2 x3 : Int) (μ : Mem) : SP l G S88 mX8_lay [vR 0, vI x1, vI x2, vI x3] μ (ww_lay x1 x2 x3 μ) jIM := by
  refine sp_go (lv := [some (vR 0), some (vI x1), some (vI x2), some (vI x3), none]) pn_X8 (Nat.le_of_ble_eq_true rfl) rfl ?_
  unfold ww_lay
  refine sr_iload_n (i := 1) (pc' := 1) dX8_lay_0 rfl rfl rfl ?_
  refine sr_callSN1_I (pc' := 4) (she_isSheet_sp x1 μ) dX8_lay_1 rfl mg_X6_isSheet ms_X6_isSheet ⟨Nat.le_of_ble_eq_true rfl, Nat.le_of_ble_eq_true rfl⟩ w_143 (Nat.le_of_ble_eq_true rfl) (fun u1 hu1 hcu1 hzu1 => ?_)
  refine sr_if_ne (pc' := 7) (tgt := 9) dX8_lay_4 rfl rfl (fun c4 => ?_) (fun c4 => ?_)
  · refine sr_iconst (pc' := 8) dX8_lay_7 rfl (by decide) ?_
    exact sr_iretI dX8_lay_8 rfl rfl
  · refine sr_aload_n (i := 0) (pc' := 10) dX8_lay_9 rfl rfl rfl ?_
    refine sr_getR (k := 9) (b := 57) (pc' := 13) cls_X8 dX8_lay_10 rfl s88_0 rfl (by decide) w_58 ?_
    refine sr_iload_n (i := 1) (pc' := 14) dX8_lay_13 rfl rfl rfl ?_
    refine sr_iload_n (i := 2) (pc' := 15) dX8_lay_14 rfl rfl rfl ?_
    refine sr_callVN2_I (pc' := 18) (she_faultOf_sp x1 x2 μ) dX8_lay_15 rfl mg_X6_faultOf mi_X6_faultOf (Or.inl ⟨6, _, TX6, 4, s88_57, rfl⟩) ⟨Nat.le_of_ble_eq_true rfl, Nat.le_of_ble_eq_true rfl⟩ w_144 (Nat.le_of_ble_eq_true rfl) (fun u2 hu2 hcu2 hzu2 => ?_)
    refine sr_istore (lv' := [some (vR 0), some (vI x1), some (vI x2), some (vI x3), some (vI u2)]) (pc' := 20) dX8_lay_18 rfl (by decide) rfl ?_
    refine sr_iload (pc' := 22) dX8_lay_20 rfl rfl ?_
    refine sr_if_eq (pc' := 25) (tgt := 31) dX8_lay_22 rfl rfl (fun c22 => ?_) (fun c22 => ?_)
    · refine sr_aload_n (i := 0) (pc' := 32) dX8_lay_31 rfl rfl rfl ?_
      refine sr_getR (k := 9) (b := 57) (pc' := 35) cls_X8 dX8_lay_32 rfl s88_0 rfl (by decide) w_58 ?_
      refine sr_iload_n (i := 1) (pc' := 36) dX8_lay_35 rfl rfl rfl ?_
      refine sr_iload_n (i := 2) (pc' := 37) dX8_lay_36 rfl rfl rfl ?_
      refine sr_iload_n (i := 3) (pc' := 38) dX8_lay_37 rfl rfl rfl ?_
      refine sr_callVN3_M (pc' := 41) (she_set_sp x1 x2 x3 μ) dX8_lay_38 rfl mg_X6_set mi_X6_set (Or.inl ⟨6, _, TX6, 4, s88_57, rfl⟩) ⟨Nat.le_of_ble_eq_true rfl, Nat.le_of_ble_eq_true rfl⟩ w_145 (Nat.le_of_ble_eq_true rfl) (fun μ3 hμ3 => ?_)
      refine sr_iconst (pc' := 42) dX8_lay_41 rfl (by decide) ?_
      exact sr_iretI dX8_lay_42 rfl rfl
    · refine sr_bipush (pc' := 27) dX8_lay_25 rfl (by decide) (by decide) ?_
      refine sr_iload (pc' := 29) dX8_lay_27 rfl rfl ?_
      refine sr_isub (pc' := 30) dX8_lay_29 rfl ?_
      exact sr_iretI dX8_lay_30 rfl rfl
def ww_less (μ : Mem)  (x0 x1 : Int) : Option (Int) := if x1 ≤ x0 then (some (wI (x0 - x1))) else (some (-1))
theorem ww_less_sp {l : Launch} {G : Nv} {Sh : Shp}   (x0 x1 : Int) (μ : Mem) : SP l G Sh mX8_less [vI x0, vI x1] μ (ww_less μ x0 x1) (jI μ) := by
  refine sp_go (lv := [some (vI x0), some (vI x1)]) pn_X8 (Nat.le_of_ble_eq_true rfl) rfl ?_
  unfold ww_less
  refine sr_iload_n (i := 0) (pc' := 1) dX8_less_0 rfl rfl rfl ?_
  refine sr_iload_n (i := 1) (pc' := 2) dX8_less_1 rfl rfl rfl ?_
  refine sr_icmp_ge (pc' := 5) (tgt := 9) dX8_less_2 rfl rfl (fun c2 => ?_) (fun c2 => ?_)
  · refine sr_iload_n (i := 0) (pc' := 10) dX8_less_9 rfl rfl rfl ?_
    refine sr_iload_n (i := 1) (pc' := 11) dX8_less_10 rfl rfl rfl ?_
    refine sr_isub (pc' := 12) dX8_less_11 rfl ?_
    exact sr_iretI dX8_less_12 rfl rfl
  · refine sr_iconst (pc' := 6) dX8_less_5 rfl (by decide) ?_
    refine sr_goto (pc' := 12) dX8_less_6 rfl ?_
    exact sr_iretI dX8_less_12 rfl rfl
def ww_load   (x1 x2 : Int) (μ : Mem) : Option (Int × Mem) := (roa_hasCart 1 μ x1).bind fun u1 => if u1 = 0 then (some ((-1), μ)) else ((ww_atR ([0, 0, 1, 0, 0, 0, 0]) 90 μ 2).bind fun u2 => if x2 < u2 then (some ((-1), μ)) else ((ww_atR ([4, 2, 9, 30, 20, 20, 20]) 91 μ 2).bind fun u3 => if x2 ≤ u3 then ((pla_drop μ).bind fun μ4 => (roa_swapPart 1 x1 2 x2 μ4).bind fun u5 => some (u5.1, u5.2)) else (some ((-1), μ))))
theorem ww_load_sp {l : Launch} {G : Nv}   (x1 x2 : Int) (μ : Mem) : SP l G S88 mX8_load [vR 0, vI x1, vI x2] μ (ww_load x1 x2 μ) jIM := by
  refine sp_go (lv := [some (vR 0), some (vI x1), some (vI x2)]) pn_X8 (Nat.le_of_ble_eq_true rfl) rfl ?_
  unfold ww_load
  refine sr_aload_n (i := 0) (pc' := 1) dX8_load_0 rfl rfl rfl ?_
  refine sr_getR (k := 0) (b := 1) (pc' := 4) cls_X8 dX8_load_1 rfl s88_0 rfl (by decide) w_19 ?_
  refine sr_iload_n (i := 1) (pc' := 5) dX8_load_4 rfl rfl rfl ?_
  refine sr_callVN1_I (pc' := 8) (roa_hasCart_sp isRoad_1 x1 μ) dX8_load_5 rfl mg_X4_hasCart mi_X4_hasCart (Or.inl ⟨4, _, TX4, 12, isRoad_1.1, rfl⟩) ⟨Nat.le_of_ble_eq_true rfl, Nat.le_of_ble_eq_true rfl⟩ w_42 (Nat.le_of_ble_eq_true rfl) (fun u1 hu1 hcu1 hzu1 => ?_)
  refine sr_if_eq (pc' := 11) (tgt := 33) dX8_load_8 rfl rfl (fun c8 => ?_) (fun c8 => ?_)
  · refine sr_iconst (pc' := 34) dX8_load_33 rfl (by decide) ?_
    exact sr_iretI dX8_load_34 rfl rfl
  · refine sr_iload_n (i := 2) (pc' := 12) dX8_load_11 rfl rfl rfl ?_
    refine sr_gets (v := vR 90) (pc' := 15) dX8_load_12 rfl (List.mem_of_getElem? (i := 0) rfl) trivial w_146 ?_
    refine sr_iconst (pc' := 16) dX8_load_15 rfl (by decide) ?_
    refine sr_callS2_I (pc' := 19) (ww_atR_sp (by decide) (by decide) (by decide) 2 μ) dX8_load_16 rfl mg_X8_at ms_X8_at ⟨Nat.le_of_ble_eq_true rfl, Nat.le_of_ble_eq_true rfl⟩ w_48 (Nat.le_of_ble_eq_true rfl) (fun u2 hu2 hcu2 hzu2 => ?_)
    refine sr_icmp_lt (pc' := 22) (tgt := 33) dX8_load_19 rfl rfl (fun c19 => ?_) (fun c19 => ?_)
    · refine sr_iconst (pc' := 34) dX8_load_33 rfl (by decide) ?_
      exact sr_iretI dX8_load_34 rfl rfl
    · refine sr_iload_n (i := 2) (pc' := 23) dX8_load_22 rfl rfl rfl ?_
      refine sr_gets (v := vR 91) (pc' := 26) dX8_load_23 rfl (List.mem_of_getElem? (i := 1) rfl) trivial w_147 ?_
      refine sr_iconst (pc' := 27) dX8_load_26 rfl (by decide) ?_
      refine sr_callS2_I (pc' := 30) (ww_atR_sp (by decide) (by decide) (by decide) 2 μ) dX8_load_27 rfl mg_X8_at ms_X8_at ⟨Nat.le_of_ble_eq_true rfl, Nat.le_of_ble_eq_true rfl⟩ w_48 (Nat.le_of_ble_eq_true rfl) (fun u3 hu3 hcu3 hzu3 => ?_)
      refine sr_icmp_le (pc' := 33) (tgt := 35) dX8_load_30 rfl rfl (fun c30 => ?_) (fun c30 => ?_)
      · refine sr_aload_n (i := 0) (pc' := 36) dX8_load_35 rfl rfl rfl ?_
        refine sr_getR (k := 6) (b := 46) (pc' := 39) cls_X8 dX8_load_36 rfl s88_0 rfl (by decide) w_22 ?_
        refine sr_callVN0_M (pc' := 42) (pla_drop_sp μ) dX8_load_39 rfl mg_X2_drop mi_X2_drop (Or.inl ⟨2, _, TX2, 10, s88_46, rfl⟩) ⟨Nat.le_of_ble_eq_true rfl, Nat.le_of_ble_eq_true rfl⟩ w_23 (Nat.le_of_ble_eq_true rfl) (fun μ4 hμ4 => ?_)
        refine sr_aload_n (i := 0) (pc' := 43) dX8_load_42 rfl rfl rfl ?_
        refine sr_getR (k := 0) (b := 1) (pc' := 46) cls_X8 dX8_load_43 rfl s88_0 rfl (by decide) w_19 ?_
        refine sr_iload_n (i := 1) (pc' := 47) dX8_load_46 rfl rfl rfl ?_
        refine sr_iconst (pc' := 48) dX8_load_47 rfl (by decide) ?_
        refine sr_iload_n (i := 2) (pc' := 49) dX8_load_48 rfl rfl rfl ?_
        refine sr_callVN3_IM (pc' := 52) (roa_swapPart_sp isRoad_1 x1 2 x2 μ4) dX8_load_49 rfl mg_X4_swapPart mi_X4_swapPart (Or.inl ⟨4, _, TX4, 12, isRoad_1.1, rfl⟩) ⟨Nat.le_of_ble_eq_true rfl, Nat.le_of_ble_eq_true rfl⟩ w_136 (Nat.le_of_ble_eq_true rfl) (fun u5 hu5 hcu5 hzu5 => ?_)
        exact sr_iretI dX8_load_52 rfl rfl
      · refine sr_iconst (pc' := 34) dX8_load_33 rfl (by decide) ?_
        exact sr_iretI dX8_load_34 rfl rfl
def pla_setMending   (x1 x2 x3 : Int) (μ : Mem) : Option (Mem) := bnd (mset μ 46 7 x1) fun μ1 => bnd (mset μ1 46 8 x2) fun μ2 => bnd (mset μ2 46 9 x3) fun μ3 => some μ3
theorem pla_setMending_sp {l : Launch} {G : Nv}   (x1 x2 x3 : Int) (μ : Mem) : SP l G S88 mX2_setMending [vR 46, vI x1, vI x2, vI x3] μ (pla_setMending x1 x2 x3 μ) jM := by
  refine sp_go (lv := [some (vR 46), some (vI x1), some (vI x2), some (vI x3)]) pn_X2 (Nat.le_of_ble_eq_true rfl) rfl ?_
  unfold pla_setMending
  refine sr_aload_n (i := 0) (pc' := 1) dX2_setMending_0 rfl rfl rfl ?_
  refine sr_iload_n (i := 1) (pc' := 2) dX2_setMending_1 rfl rfl rfl ?_
  refine sr_putI (k := 7) (pc' := 5) cls_X2 dX2_setMending_2 rfl s88_46 rfl (by decide) w_148 rfl rfl (fun μ1 hμ1 => ?_)
  refine sr_aload_n (i := 0) (pc' := 6) dX2_setMending_5 rfl rfl rfl ?_
  refine sr_iload_n (i := 2) (pc' := 7) dX2_setMending_6 rfl rfl rfl ?_
  refine sr_putI (k := 8) (pc' := 10) cls_X2 dX2_setMending_7 rfl s88_46 rfl (by decide) w_149 rfl rfl (fun μ2 hμ2 => ?_)
  refine sr_aload_n (i := 0) (pc' := 11) dX2_setMending_10 rfl rfl rfl ?_
  refine sr_iload_n (i := 3) (pc' := 12) dX2_setMending_11 rfl rfl rfl ?_
  refine sr_putI (k := 9) (pc' := 15) cls_X2 dX2_setMending_12 rfl s88_46 rfl (by decide) w_150 rfl rfl (fun μ3 hμ3 => ?_)
  exact sr_ret dX2_setMending_15 rfl rfl
def run_level_2   : Nat → Int → Int → Mem → Option (Mem)
  | 0, _, _, _ => none
  | n + 1, x1, x2, μ => if 3 ≤ x2 then (some μ) else ((ww_rut μ x1 x2).bind fun u1 => (run_setDepth u1 0 μ).bind fun μ2 => run_level_2 n x1 (wI (x2 + 1)) μ2)
theorem run_level_2_s {l : Launch} {G : Nv}     : ∀ (n : Nat) (x1 x2 : Int) (μ : Mem), SR l G S88 mX5_level (run_level_2 n x1 x2 μ) jM 2 [some (vR 35), some (vI x1), some (vI x2)] [] μ := by
  intro n
  induction n with
  | zero => intro x1 x2 μ; exact sr_none
  | succ n ih =>
    intro x1 x2 μ
    rw [run_level_2.eq_2]
    refine sr_iload_n (i := 2) (pc' := 3) dX5_level_2 rfl rfl rfl ?_
    refine sr_iconst (pc' := 4) dX5_level_3 rfl (by decide) ?_
    refine sr_icmp_ge (pc' := 7) (tgt := 23) dX5_level_4 rfl rfl (fun c4 => ?_) (fun c4 => ?_)
    · exact sr_ret dX5_level_23 rfl rfl
    · refine sr_aload_n (i := 0) (pc' := 8) dX5_level_7 rfl rfl rfl ?_
      refine sr_iload_n (i := 1) (pc' := 9) dX5_level_8 rfl rfl rfl ?_
      refine sr_iload_n (i := 2) (pc' := 10) dX5_level_9 rfl rfl rfl ?_
      refine sr_callSN2_I (pc' := 13) (ww_rut_sp x1 x2 μ) dX5_level_10 rfl mg_X8_rut ms_X8_rut ⟨Nat.le_of_ble_eq_true rfl, Nat.le_of_ble_eq_true rfl⟩ w_90 (Nat.le_of_ble_eq_true rfl) (fun u1 hu1 hcu1 hzu1 => ?_)
      refine sr_iconst (pc' := 14) dX5_level_13 rfl (by decide) ?_
      refine sr_callV2_M (pc' := 17) (run_setDepth_sp u1 0 μ) dX5_level_14 rfl mg_X5_setDepth mi_X5_setDepth (Or.inl ⟨5, _, TX5, 13, s88_35, rfl⟩) ⟨Nat.le_of_ble_eq_true rfl, Nat.le_of_ble_eq_true rfl⟩ w_93 (Nat.le_of_ble_eq_true rfl) (fun μ2 hμ2 => ?_)
      refine sr_iinc (lv' := [some (vR 35), some (vI x1), some (vI (wI (x2 + 1)))]) (pc' := 20) dX5_level_17 rfl (by decide) rfl rfl ?_
      refine sr_goto (pc' := 2) dX5_level_20 rfl ?_
      exact ih x1 (wI (x2 + 1)) μ2
def run_level   (x1 : Int) (μ : Mem) : Option (Mem) := run_level_2 BIG x1 0 μ
theorem run_level_sp {l : Launch} {G : Nv}   (x1 : Int) (μ : Mem) : SP l G S88 mX5_level [vR 35, vI x1] μ (run_level x1 μ) jM := by
  refine sp_go (lv := [some (vR 35), some (vI x1), none]) pn_X5 (Nat.le_of_ble_eq_true rfl) rfl ?_
  unfold run_level
  refine sr_iconst (pc' := 1) dX5_level_0 rfl (by decide) ?_
  refine sr_istore_n (i := 2) (lv' := [some (vR 35), some (vI x1), some (vI 0)]) (pc' := 2) dX5_level_1 rfl rfl (by decide) rfl ?_
  exact run_level_2_s BIG x1 0 μ
def roa_hasFrostFrom (r : Nat) (μ : Mem)  (x1 : Int) : Option (Int) := if (lCmp (lShr (μ r 8) x1) 0) = 0 then (some 0) else (some 1)
theorem roa_hasFrostFrom_sp {l : Launch} {G : Nv} {Sh : Shp} {r : Nat} (hr : IsRoad Sh r) (x1 : Int) (μ : Mem) : SP l G Sh mX4_hasFrostFrom [vR r, vI x1] μ (roa_hasFrostFrom r μ x1) (jI μ) := by
  refine sp_go (lv := [some (vR r), some (vI x1)]) pn_X4 (Nat.le_of_ble_eq_true rfl) rfl ?_
  unfold roa_hasFrostFrom
  refine sr_aload_n (i := 0) (pc' := 1) dX4_hasFrostFrom_0 rfl rfl rfl ?_
  refine sr_getL (k := 8) (pc' := 4) cls_X4 dX4_hasFrostFrom_1 rfl hr.1 rfl (by decide) w_11 ?_
  refine sr_iload_n (i := 1) (pc' := 5) dX4_hasFrostFrom_4 rfl rfl rfl ?_
  refine sr_lshr (pc' := 6) dX4_hasFrostFrom_5 rfl ?_
  refine sr_lconst (x := 0) (pc' := 7) dX4_hasFrostFrom_6 rfl (by decide) rfl ?_
  refine sr_lcmp (pc' := 8) dX4_hasFrostFrom_7 rfl ?_
  refine sr_if_eq (pc' := 11) (tgt := 15) dX4_hasFrostFrom_8 rfl rfl (fun c8 => ?_) (fun c8 => ?_)
  · refine sr_iconst (pc' := 16) dX4_hasFrostFrom_15 rfl (by decide) ?_
    exact sr_iretZ dX4_hasFrostFrom_16 rfl (Or.inl rfl) rfl
  · refine sr_iconst (pc' := 12) dX4_hasFrostFrom_11 rfl (by decide) ?_
    refine sr_goto (pc' := 16) dX4_hasFrostFrom_12 rfl ?_
    exact sr_iretZ dX4_hasFrostFrom_16 rfl (Or.inr rfl) rfl
def run_allDone_111 (o1 : Nat) (k29 : Int → Int → Mem → Option (Int × Mem)) (x5 s0 : Int) (μ : Mem) : Option (Int × Mem) := k29 s0 (wI (x5 + 1)) μ
theorem run_allDone_111_s {l : Launch} {G : Nv} {o1 : Nat} (ho1 : IsOrder S88 o1) {k29 : Int → Int → Mem → Option (Int × Mem)} (hk29 : ∀ (x4 x5 : Int) (μ : Mem) , SR l G S88 mX5_allDone (k29 x4 x5 μ) jIM 29 [some (vR 35), none, none, none, some (vI x4), some (vI x5), none, none] [] μ) : ∀ (x5 s0 : Int) (μ : Mem), SR l G S88 mX5_allDone (run_allDone_111 o1 k29 x5 s0 μ) jIM 111 [some (vR 35), none, none, none, none, some (vI x5), none, none] [vI s0] μ := by
  intro x5 s0 μ
  unfold run_allDone_111
  refine sr_istore (lv' := [some (vR 35), none, none, none, some (vI s0), some (vI x5), none, none]) (pc' := 113) dX5_allDone_111 rfl (by decide) rfl ?_
  refine sr_iinc (lv' := [some (vR 35), none, none, none, some (vI s0), some (vI (wI (x5 + 1))), none, none]) (pc' := 116) dX5_allDone_113 rfl (by decide) rfl rfl ?_
  refine sr_goto (pc' := 29) dX5_allDone_116 rfl ?_
  exact hk29 s0 (wI (x5 + 1)) μ
def run_allDone_75 (o1 : Nat) (k29 : Int → Int → Mem → Option (Int × Mem)) (x4 x5 s0 : Int) (μ : Mem) : Option (Int × Mem) := bnd (μ 35 10) fun v1 => (run_goHour x5 μ).bind fun μ2 => if s0 = 0 then (if (μ2 35 10) ≤ v1 then (run_allDone_111 o1 k29 x5 (wI (x4 + 1)) μ2) else (run_allDone_111 o1 k29 x5 0 μ2)) else (run_allDone_111 o1 k29 x5 0 μ2)
theorem run_allDone_75_s {l : Launch} {G : Nv} {o1 : Nat} (ho1 : IsOrder S88 o1) {k29 : Int → Int → Mem → Option (Int × Mem)} (hk29 : ∀ (x4 x5 : Int) (μ : Mem) , SR l G S88 mX5_allDone (k29 x4 x5 μ) jIM 29 [some (vR 35), none, none, none, some (vI x4), some (vI x5), none, none] [] μ) : ∀ (x4 x5 s0 : Int) (μ : Mem), SR l G S88 mX5_allDone (run_allDone_75 o1 k29 x4 x5 s0 μ) jIM 75 [some (vR 35), none, none, none, some (vI x4), some (vI x5), none, none] [vI s0] μ := by
  intro x4 x5 s0 μ
  unfold run_allDone_75
  refine sr_istore (lv' := [some (vR 35), none, none, none, some (vI x4), some (vI x5), some (vI s0), none]) (pc' := 77) dX5_allDone_75 rfl (by decide) rfl ?_
  refine sr_aload_n (i := 0) (pc' := 78) dX5_allDone_77 rfl rfl rfl ?_
  refine sr_getI (k := 10) (pc' := 81) cls_X5 dX5_allDone_78 rfl s88_35 rfl (by decide) w_80 ?_
  refine sr_bnd (fun v1 hv1 => ?_)
  refine sr_istore (lv' := [some (vR 35), none, none, none, some (vI x4), some (vI x5), some (vI s0), some (vI v1)]) (pc' := 83) dX5_allDone_81 rfl (by decide) rfl ?_
  refine sr_aload_n (i := 0) (pc' := 84) dX5_allDone_83 rfl rfl rfl ?_
  refine sr_iload (pc' := 86) dX5_allDone_84 rfl rfl ?_
  refine sr_callV1_M (pc' := 89) (run_goHour_sp x5 μ) dX5_allDone_86 rfl mg_X5_goHour mi_X5_goHour (Or.inl ⟨5, _, TX5, 13, s88_35, rfl⟩) ⟨Nat.le_of_ble_eq_true rfl, Nat.le_of_ble_eq_true rfl⟩ w_103 (Nat.le_of_ble_eq_true rfl) (fun μ2 hμ2 => ?_)
  refine sr_iload (pc' := 91) dX5_allDone_89 rfl rfl ?_
  refine sr_if_ne (pc' := 94) (tgt := 103) dX5_allDone_91 rfl rfl (fun c91 => ?_) (fun c91 => ?_)
  · refine sr_aload_n (i := 0) (pc' := 95) dX5_allDone_94 rfl rfl rfl ?_
    refine sr_getI (k := 10) (pc' := 98) cls_X5 dX5_allDone_95 rfl s88_35 rfl (by decide) w_80 ?_
    refine sr_iload (pc' := 100) dX5_allDone_98 rfl rfl ?_
    refine sr_icmp_le (pc' := 103) (tgt := 107) dX5_allDone_100 rfl rfl (fun c100 => ?_) (fun c100 => ?_)
    · refine sr_iload (pc' := 109) dX5_allDone_107 rfl rfl ?_
      refine sr_iconst (pc' := 110) dX5_allDone_109 rfl (by decide) ?_
      refine sr_iadd (pc' := 111) dX5_allDone_110 rfl ?_
      refine sr_fgt (fgt_s (fgt_s (fgt_s (fgt_s (fgt_n (fgt_s (fgt_n (fgt_n fgt_nil)))))))) ?_
      exact run_allDone_111_s ho1 hk29 x5 (wI (x4 + 1)) μ2
    · refine sr_iconst (pc' := 104) dX5_allDone_103 rfl (by decide) ?_
      refine sr_goto (pc' := 111) dX5_allDone_104 rfl ?_
      refine sr_fgt (fgt_s (fgt_s (fgt_s (fgt_s (fgt_n (fgt_s (fgt_n (fgt_n fgt_nil)))))))) ?_
      exact run_allDone_111_s ho1 hk29 x5 0 μ2
  · refine sr_iconst (pc' := 104) dX5_allDone_103 rfl (by decide) ?_
    refine sr_goto (pc' := 111) dX5_allDone_104 rfl ?_
    refine sr_fgt (fgt_s (fgt_s (fgt_s (fgt_s (fgt_n (fgt_s (fgt_n (fgt_n fgt_nil)))))))) ?_
    exact run_allDone_111_s ho1 hk29 x5 0 μ2
def run_allDone_119 (o1 : Nat)  (μ : Mem) : Option (Int × Mem) := if (μ 35 9) = 0 then (some (1, μ)) else (some (0, μ))
theorem run_allDone_119_s {l : Launch} {G : Nv} {o1 : Nat} (ho1 : IsOrder S88 o1)   : ∀ (μ : Mem), SR l G S88 mX5_allDone (run_allDone_119 o1 μ) jIM 119 [some (vR 35), none, none, none, none, none, none, none] [] μ := by
  intro μ
  unfold run_allDone_119
  refine sr_aload_n (i := 0) (pc' := 120) dX5_allDone_119 rfl rfl rfl ?_
  refine sr_getI (k := 9) (pc' := 123) cls_X5 dX5_allDone_120 rfl s88_35 rfl (by decide) w_79 ?_
  refine sr_if_ne (pc' := 126) (tgt := 130) dX5_allDone_123 rfl rfl (fun c123 => ?_) (fun c123 => ?_)
  · refine sr_iconst (pc' := 127) dX5_allDone_126 rfl (by decide) ?_
    refine sr_goto (pc' := 131) dX5_allDone_127 rfl ?_
    exact sr_iretZ dX5_allDone_131 rfl (Or.inr rfl) rfl
  · refine sr_iconst (pc' := 131) dX5_allDone_130 rfl (by decide) ?_
    exact sr_iretZ dX5_allDone_131 rfl (Or.inl rfl) rfl
def run_allDone_29 (o1 : Nat)  : Nat → Int → Int → Mem → Option (Int × Mem)
  | 0, _, _, _ => none
  | n + 1, x4, x5, μ => if 60 < x5 then (run_allDone_119 o1 μ) else (if (μ 35 9) ≤ 0 then (run_allDone_119 o1 μ) else (if 2 ≤ x4 then (run_allDone_119 o1 μ) else (if x5 ≤ (μ 35 11) then (run_allDone_75 o1 (run_allDone_29 o1 n) x4 x5 1 μ) else ((roa_hasFrostFrom 1 μ x5).bind fun u1 => if u1 = 0 then (run_allDone_75 o1 (run_allDone_29 o1 n) x4 x5 0 μ) else (run_allDone_75 o1 (run_allDone_29 o1 n) x4 x5 1 μ)))))
theorem run_allDone_29_s {l : Launch} {G : Nv} {o1 : Nat} (ho1 : IsOrder S88 o1)   : ∀ (n : Nat) (x4 x5 : Int) (μ : Mem), SR l G S88 mX5_allDone (run_allDone_29 o1 n x4 x5 μ) jIM 29 [some (vR 35), none, none, none, some (vI x4), some (vI x5), none, none] [] μ := by
  intro n
  induction n with
  | zero => intro x4 x5 μ; exact sr_none
  | succ n ih =>
    intro x4 x5 μ
    rw [run_allDone_29.eq_2]
    refine sr_iload (pc' := 31) dX5_allDone_29 rfl rfl ?_
    refine sr_bipush (pc' := 33) dX5_allDone_31 rfl (by decide) (by decide) ?_
    refine sr_icmp_gt (pc' := 36) (tgt := 119) dX5_allDone_33 rfl rfl (fun c33 => ?_) (fun c33 => ?_)
    · refine sr_fgt (fgt_s (fgt_s (fgt_s (fgt_s (fgt_n (fgt_n (fgt_s (fgt_s fgt_nil)))))))) ?_
      exact run_allDone_119_s ho1 μ
    · refine sr_aload_n (i := 0) (pc' := 37) dX5_allDone_36 rfl rfl rfl ?_
      refine sr_getI (k := 9) (pc' := 40) cls_X5 dX5_allDone_37 rfl s88_35 rfl (by decide) w_79 ?_
      refine sr_if_le (pc' := 43) (tgt := 119) dX5_allDone_40 rfl rfl (fun c40 => ?_) (fun c40 => ?_)
      · refine sr_fgt (fgt_s (fgt_s (fgt_s (fgt_s (fgt_n (fgt_n (fgt_s (fgt_s fgt_nil)))))))) ?_
        exact run_allDone_119_s ho1 μ
      · refine sr_iload (pc' := 45) dX5_allDone_43 rfl rfl ?_
        refine sr_iconst (pc' := 46) dX5_allDone_45 rfl (by decide) ?_
        refine sr_icmp_ge (pc' := 49) (tgt := 119) dX5_allDone_46 rfl rfl (fun c46 => ?_) (fun c46 => ?_)
        · refine sr_fgt (fgt_s (fgt_s (fgt_s (fgt_s (fgt_n (fgt_n (fgt_s (fgt_s fgt_nil)))))))) ?_
          exact run_allDone_119_s ho1 μ
        · refine sr_iload (pc' := 51) dX5_allDone_49 rfl rfl ?_
          refine sr_aload_n (i := 0) (pc' := 52) dX5_allDone_51 rfl rfl rfl ?_
          refine sr_getI (k := 11) (pc' := 55) cls_X5 dX5_allDone_52 rfl s88_35 rfl (by decide) w_67 ?_
          refine sr_icmp_le (pc' := 58) (tgt := 70) dX5_allDone_55 rfl rfl (fun c55 => ?_) (fun c55 => ?_)
          · refine sr_iconst (pc' := 71) dX5_allDone_70 rfl (by decide) ?_
            refine sr_goto (pc' := 75) dX5_allDone_71 rfl ?_
            exact run_allDone_75_s ho1 ih x4 x5 1 μ
          · refine sr_aload_n (i := 0) (pc' := 59) dX5_allDone_58 rfl rfl rfl ?_
            refine sr_getR (k := 0) (b := 1) (pc' := 62) cls_X5 dX5_allDone_59 rfl s88_35 rfl (by decide) w_64 ?_
            refine sr_iload (pc' := 64) dX5_allDone_62 rfl rfl ?_
            refine sr_callVN1_I (pc' := 67) (roa_hasFrostFrom_sp isRoad_1 x5 μ) dX5_allDone_64 rfl mg_X4_hasFrostFrom mi_X4_hasFrostFrom (Or.inl ⟨4, _, TX4, 12, isRoad_1.1, rfl⟩) ⟨Nat.le_of_ble_eq_true rfl, Nat.le_of_ble_eq_true rfl⟩ w_151 (Nat.le_of_ble_eq_true rfl) (fun u1 hu1 hcu1 hzu1 => ?_)
            refine sr_if_eq (pc' := 70) (tgt := 74) dX5_allDone_67 rfl rfl (fun c67 => ?_) (fun c67 => ?_)
            · refine sr_iconst (pc' := 75) dX5_allDone_74 rfl (by decide) ?_
              exact run_allDone_75_s ho1 ih x4 x5 0 μ
            · refine sr_iconst (pc' := 71) dX5_allDone_70 rfl (by decide) ?_
              refine sr_goto (pc' := 75) dX5_allDone_71 rfl ?_
              exact run_allDone_75_s ho1 ih x4 x5 1 μ
def run_allDone_23 (o1 : Nat)  (μ : Mem) : Option (Int × Mem) := run_allDone_29 o1 BIG 0 1 μ
theorem run_allDone_23_s {l : Launch} {G : Nv} {o1 : Nat} (ho1 : IsOrder S88 o1)   : ∀ (μ : Mem), SR l G S88 mX5_allDone (run_allDone_23 o1 μ) jIM 23 [some (vR 35), none, none, none, none, none, none, none] [] μ := by
  intro μ
  unfold run_allDone_23
  refine sr_iconst (pc' := 24) dX5_allDone_23 rfl (by decide) ?_
  refine sr_istore (lv' := [some (vR 35), none, none, none, some (vI 0), none, none, none]) (pc' := 26) dX5_allDone_24 rfl (by decide) rfl ?_
  refine sr_iconst (pc' := 27) dX5_allDone_26 rfl (by decide) ?_
  refine sr_istore (lv' := [some (vR 35), none, none, none, some (vI 0), some (vI 1), none, none]) (pc' := 29) dX5_allDone_27 rfl (by decide) rfl ?_
  exact run_allDone_29_s ho1 BIG 0 1 μ
def run_allDone_14 (o1 : Nat)  (x3 : Int) (μ : Mem) : Option (Int × Mem) := if x3 < 0 then (run_allDone_23 o1 μ) else ((run_level x3 μ).bind fun μ1 => run_allDone_23 o1 μ1)
theorem run_allDone_14_s {l : Launch} {G : Nv} {o1 : Nat} (ho1 : IsOrder S88 o1)   : ∀ (x3 : Int) (μ : Mem), SR l G S88 mX5_allDone (run_allDone_14 o1 x3 μ) jIM 14 [some (vR 35), none, none, some (vI x3), none, none, none, none] [] μ := by
  intro x3 μ
  unfold run_allDone_14
  refine sr_iload_n (i := 3) (pc' := 15) dX5_allDone_14 rfl rfl rfl ?_
  refine sr_if_lt (pc' := 18) (tgt := 23) dX5_allDone_15 rfl rfl (fun c15 => ?_) (fun c15 => ?_)
  · refine sr_fgt (fgt_s (fgt_s (fgt_s (fgt_n (fgt_s (fgt_s (fgt_s (fgt_s fgt_nil)))))))) ?_
    exact run_allDone_23_s ho1 μ
  · refine sr_aload_n (i := 0) (pc' := 19) dX5_allDone_18 rfl rfl rfl ?_
    refine sr_iload_n (i := 3) (pc' := 20) dX5_allDone_19 rfl rfl rfl ?_
    refine sr_callV1_M (pc' := 23) (run_level_sp x3 μ) dX5_allDone_20 rfl mg_X5_level mi_X5_level (Or.inl ⟨5, _, TX5, 13, s88_35, rfl⟩) ⟨Nat.le_of_ble_eq_true rfl, Nat.le_of_ble_eq_true rfl⟩ w_152 (Nat.le_of_ble_eq_true rfl) (fun μ1 hμ1 => ?_)
    refine sr_fgt (fgt_s (fgt_s (fgt_s (fgt_n (fgt_s (fgt_s (fgt_s (fgt_s fgt_nil)))))))) ?_
    exact run_allDone_23_s ho1 μ1
def run_allDone (o1 : Nat)  (x2 x3 : Int) (μ : Mem) : Option (Int × Mem) := (run_begin o1 μ).bind fun μ1 => if x2 < 0 then (run_allDone_14 o1 x3 μ1) else ((run_level x2 μ1).bind fun μ2 => run_allDone_14 o1 x3 μ2)
theorem run_allDone_sp {l : Launch} {G : Nv} {o1 : Nat} (ho1 : IsOrder S88 o1) (x2 x3 : Int) (μ : Mem) : SP l G S88 mX5_allDone [vR 35, vR o1, vI x2, vI x3] μ (run_allDone o1 x2 x3 μ) jIM := by
  refine sp_go (lv := [some (vR 35), some (vR o1), some (vI x2), some (vI x3), none, none, none, none]) pn_X5 (Nat.le_of_ble_eq_true rfl) rfl ?_
  unfold run_allDone
  refine sr_aload_n (i := 0) (pc' := 1) dX5_allDone_0 rfl rfl rfl ?_
  refine sr_aload_n (i := 1) (pc' := 2) dX5_allDone_1 rfl rfl rfl ?_
  refine sr_callV1_M (pc' := 5) (run_begin_sp ho1 μ) dX5_allDone_2 rfl mg_X5_begin mi_X5_begin (Or.inl ⟨5, _, TX5, 13, s88_35, rfl⟩) ⟨Nat.le_of_ble_eq_true rfl, Nat.le_of_ble_eq_true rfl⟩ w_153 (Nat.le_of_ble_eq_true rfl) (fun μ1 hμ1 => ?_)
  refine sr_iload_n (i := 2) (pc' := 6) dX5_allDone_5 rfl rfl rfl ?_
  refine sr_if_lt (pc' := 9) (tgt := 14) dX5_allDone_6 rfl rfl (fun c6 => ?_) (fun c6 => ?_)
  · refine sr_fgt (fgt_s (fgt_n (fgt_n (fgt_s (fgt_s (fgt_s (fgt_s (fgt_s fgt_nil)))))))) ?_
    exact run_allDone_14_s ho1 x3 μ1
  · refine sr_aload_n (i := 0) (pc' := 10) dX5_allDone_9 rfl rfl rfl ?_
    refine sr_iload_n (i := 2) (pc' := 11) dX5_allDone_10 rfl rfl rfl ?_
    refine sr_callV1_M (pc' := 14) (run_level_sp x2 μ1) dX5_allDone_11 rfl mg_X5_level mi_X5_level (Or.inl ⟨5, _, TX5, 13, s88_35, rfl⟩) ⟨Nat.le_of_ble_eq_true rfl, Nat.le_of_ble_eq_true rfl⟩ w_152 (Nat.le_of_ble_eq_true rfl) (fun μ2 hμ2 => ?_)
    refine sr_fgt (fgt_s (fgt_n (fgt_n (fgt_s (fgt_s (fgt_s (fgt_s (fgt_s fgt_nil)))))))) ?_
    exact run_allDone_14_s ho1 x3 μ2
def pla_isWorn_2 (μ : Mem)  : Nat → Int → Int → Option (Int)
  | 0, _, _ => none
  | n + 1, x1, x2 => if 3 ≤ x2 then (some 0) else ((ww_rut μ x1 x2).bind fun u1 => (ww_at 5 63 μ u1).bind fun u2 => if u2 ≤ 0 then (pla_isWorn_2 μ n x1 (wI (x2 + 1))) else (some 1))
theorem pla_isWorn_2_s {l : Launch} {G : Nv}   (μ : Mem)   : ∀ (n : Nat) (x1 x2 : Int), SR l G S88 mX2_isWorn (pla_isWorn_2 μ n x1 x2) (jI μ) 2 [some (vR 46), some (vI x1), some (vI x2)] [] μ := by
  intro n
  induction n with
  | zero => intro x1 x2; exact sr_none
  | succ n ih =>
    intro x1 x2
    rw [pla_isWorn_2.eq_2]
    refine sr_iload_n (i := 2) (pc' := 3) dX2_isWorn_2 rfl rfl rfl ?_
    refine sr_iconst (pc' := 4) dX2_isWorn_3 rfl (by decide) ?_
    refine sr_icmp_ge (pc' := 7) (tgt := 33) dX2_isWorn_4 rfl rfl (fun c4 => ?_) (fun c4 => ?_)
    · refine sr_iconst (pc' := 34) dX2_isWorn_33 rfl (by decide) ?_
      exact sr_iretZ dX2_isWorn_34 rfl (Or.inl rfl) rfl
    · refine sr_aload_n (i := 0) (pc' := 8) dX2_isWorn_7 rfl rfl rfl ?_
      refine sr_getR (k := 0) (b := 1) (pc' := 11) cls_X2 dX2_isWorn_8 rfl s88_46 rfl (by decide) w_154 ?_
      refine sr_getR (k := 3) (b := 5) (pc' := 14) cls_X4 dX2_isWorn_11 rfl isRoad_1.1 rfl (by decide) w_155 ?_
      refine sr_iload_n (i := 1) (pc' := 15) dX2_isWorn_14 rfl rfl rfl ?_
      refine sr_iload_n (i := 2) (pc' := 16) dX2_isWorn_15 rfl rfl rfl ?_
      refine sr_callSN2_I (pc' := 19) (ww_rut_sp x1 x2 μ) dX2_isWorn_16 rfl mg_X8_rut ms_X8_rut ⟨Nat.le_of_ble_eq_true rfl, Nat.le_of_ble_eq_true rfl⟩ w_156 (Nat.le_of_ble_eq_true rfl) (fun u1 hu1 hcu1 hzu1 => ?_)
      refine sr_callSN2_I (pc' := 22) (ww_at_sp isRoad_1.2.2.2.2.1 (by decide) u1 μ) dX2_isWorn_19 rfl mg_X8_at ms_X8_at ⟨Nat.le_of_ble_eq_true rfl, Nat.le_of_ble_eq_true rfl⟩ w_157 (Nat.le_of_ble_eq_true rfl) (fun u2 hu2 hcu2 hzu2 => ?_)
      refine sr_if_le (pc' := 25) (tgt := 27) dX2_isWorn_22 rfl rfl (fun c22 => ?_) (fun c22 => ?_)
      · refine sr_iinc (lv' := [some (vR 46), some (vI x1), some (vI (wI (x2 + 1)))]) (pc' := 30) dX2_isWorn_27 rfl (by decide) rfl rfl ?_
        refine sr_goto (pc' := 2) dX2_isWorn_30 rfl ?_
        exact ih x1 (wI (x2 + 1))
      · refine sr_iconst (pc' := 26) dX2_isWorn_25 rfl (by decide) ?_
        exact sr_iretZ dX2_isWorn_26 rfl (Or.inr rfl) rfl
def pla_isWorn (μ : Mem)  (x1 : Int) : Option (Int) := pla_isWorn_2 μ BIG x1 0
theorem pla_isWorn_sp {l : Launch} {G : Nv}   (x1 : Int) (μ : Mem) : SP l G S88 mX2_isWorn [vR 46, vI x1] μ (pla_isWorn μ x1) (jI μ) := by
  refine sp_go (lv := [some (vR 46), some (vI x1), none]) pn_X2 (Nat.le_of_ble_eq_true rfl) rfl ?_
  unfold pla_isWorn
  refine sr_iconst (pc' := 1) dX2_isWorn_0 rfl (by decide) ?_
  refine sr_istore_n (i := 2) (lv' := [some (vR 46), some (vI x1), some (vI 0)]) (pc' := 2) dX2_isWorn_1 rfl rfl (by decide) rfl ?_
  exact pla_isWorn_2_s μ BIG x1 0
def pla_findMending_102  (k57 : Int → Mem → Option (Mem)) (x1 : Int) (μ : Mem) : Option (Mem) := k57 (wI (x1 + 1)) μ
theorem pla_findMending_102_s {l : Launch} {G : Nv}   {k57 : Int → Mem → Option (Mem)} (hk57 : ∀ (x1 : Int) (μ : Mem) , SR l G S88 mX2_findMending (k57 x1 μ) jM 57 [some (vR 46), some (vI x1), none] [] μ) : ∀ (x1 : Int) (μ : Mem), SR l G S88 mX2_findMending (pla_findMending_102 k57 x1 μ) jM 102 [some (vR 46), some (vI x1), none] [] μ := by
  intro x1 μ
  unfold pla_findMending_102
  refine sr_iinc (lv' := [some (vR 46), some (vI (wI (x1 + 1))), none]) (pc' := 105) dX2_findMending_102 rfl (by decide) rfl rfl ?_
  refine sr_goto (pc' := 57) dX2_findMending_105 rfl ?_
  exact hk57 (wI (x1 + 1)) μ
def pla_findMending_176  (k125 : Int → Int → Mem → Option (Mem)) (x1 x2 : Int) (μ : Mem) : Option (Mem) := k125 x1 (wI (x2 + 1)) μ
theorem pla_findMending_176_s {l : Launch} {G : Nv}   {k125 : Int → Int → Mem → Option (Mem)} (hk125 : ∀ (x1 x2 : Int) (μ : Mem) , SR l G S88 mX2_findMending (k125 x1 x2 μ) jM 125 [some (vR 46), some (vI x1), some (vI x2)] [] μ) : ∀ (x1 x2 : Int) (μ : Mem), SR l G S88 mX2_findMending (pla_findMending_176 k125 x1 x2 μ) jM 176 [some (vR 46), some (vI x1), some (vI x2)] [] μ := by
  intro x1 x2 μ
  unfold pla_findMending_176
  refine sr_iinc (lv' := [some (vR 46), some (vI x1), some (vI (wI (x2 + 1)))]) (pc' := 179) dX2_findMending_176 rfl (by decide) rfl rfl ?_
  refine sr_goto (pc' := 125) dX2_findMending_179 rfl ?_
  exact hk125 x1 (wI (x2 + 1)) μ
def pla_findMending_182  (k110 : Int → Mem → Option (Mem)) (x1 : Int) (μ : Mem) : Option (Mem) := k110 (wI (x1 + 1)) μ
theorem pla_findMending_182_s {l : Launch} {G : Nv}   {k110 : Int → Mem → Option (Mem)} (hk110 : ∀ (x1 : Int) (μ : Mem) , SR l G S88 mX2_findMending (k110 x1 μ) jM 110 [some (vR 46), some (vI x1), none] [] μ) : ∀ (x1 : Int) (μ : Mem), SR l G S88 mX2_findMending (pla_findMending_182 k110 x1 μ) jM 182 [some (vR 46), some (vI x1), none] [] μ := by
  intro x1 μ
  unfold pla_findMending_182
  refine sr_iinc (lv' := [some (vR 46), some (vI (wI (x1 + 1))), none]) (pc' := 185) dX2_findMending_182 rfl (by decide) rfl rfl ?_
  refine sr_goto (pc' := 110) dX2_findMending_185 rfl ?_
  exact hk110 (wI (x1 + 1)) μ
def pla_findMending_125  (k110 : Int → Mem → Option (Mem)) : Nat → Int → Int → Mem → Option (Mem)
  | 0, _, _, _ => none
  | n + 1, x1, x2, μ => (pla_isWorn μ x1).bind fun u1 => if u1 = 0 then (pla_findMending_182 k110 x1 μ) else (if (μ 1 9) < x2 then (pla_findMending_182 k110 x1 μ) else ((pla_setMending 2 x1 x2 μ).bind fun μ2 => (pla_isWorn μ2 x2).bind fun u3 => if u3 = 0 then (pla_findMending_176 (pla_findMending_125 k110 n) x1 x2 μ2) else ((run_allDone 47 x1 x2 μ2).bind fun u4 => if u4.1 = 0 then (pla_findMending_176 (pla_findMending_125 k110 n) x1 x2 u4.2) else (some u4.2))))
theorem pla_findMending_125_s {l : Launch} {G : Nv}   {k110 : Int → Mem → Option (Mem)} (hk110 : ∀ (x1 : Int) (μ : Mem) , SR l G S88 mX2_findMending (k110 x1 μ) jM 110 [some (vR 46), some (vI x1), none] [] μ) : ∀ (n : Nat) (x1 x2 : Int) (μ : Mem), SR l G S88 mX2_findMending (pla_findMending_125 k110 n x1 x2 μ) jM 125 [some (vR 46), some (vI x1), some (vI x2)] [] μ := by
  intro n
  induction n with
  | zero => intro x1 x2 μ; exact sr_none
  | succ n ih =>
    intro x1 x2 μ
    rw [pla_findMending_125.eq_2]
    refine sr_aload_n (i := 0) (pc' := 126) dX2_findMending_125 rfl rfl rfl ?_
    refine sr_iload_n (i := 1) (pc' := 127) dX2_findMending_126 rfl rfl rfl ?_
    refine sr_callV1_I (pc' := 130) (pla_isWorn_sp x1 μ) dX2_findMending_127 rfl mg_X2_isWorn mi_X2_isWorn (Or.inl ⟨2, _, TX2, 10, s88_46, rfl⟩) ⟨Nat.le_of_ble_eq_true rfl, Nat.le_of_ble_eq_true rfl⟩ w_158 (Nat.le_of_ble_eq_true rfl) (fun u1 hu1 hcu1 hzu1 => ?_)
    refine sr_if_eq (pc' := 133) (tgt := 182) dX2_findMending_130 rfl rfl (fun c130 => ?_) (fun c130 => ?_)
    · refine sr_fgt (fgt_s (fgt_s (fgt_n fgt_nil))) ?_
      exact pla_findMending_182_s hk110 x1 μ
    · refine sr_iload_n (i := 2) (pc' := 134) dX2_findMending_133 rfl rfl rfl ?_
      refine sr_aload_n (i := 0) (pc' := 135) dX2_findMending_134 rfl rfl rfl ?_
      refine sr_getR (k := 0) (b := 1) (pc' := 138) cls_X2 dX2_findMending_135 rfl s88_46 rfl (by decide) w_154 ?_
      refine sr_getI (k := 9) (pc' := 141) cls_X4 dX2_findMending_138 rfl isRoad_1.1 rfl (by decide) w_159 ?_
      refine sr_icmp_gt (pc' := 144) (tgt := 182) dX2_findMending_141 rfl rfl (fun c141 => ?_) (fun c141 => ?_)
      · refine sr_fgt (fgt_s (fgt_s (fgt_n fgt_nil))) ?_
        exact pla_findMending_182_s hk110 x1 μ
      · refine sr_aload_n (i := 0) (pc' := 145) dX2_findMending_144 rfl rfl rfl ?_
        refine sr_iconst (pc' := 146) dX2_findMending_145 rfl (by decide) ?_
        refine sr_iload_n (i := 1) (pc' := 147) dX2_findMending_146 rfl rfl rfl ?_
        refine sr_iload_n (i := 2) (pc' := 148) dX2_findMending_147 rfl rfl rfl ?_
        refine sr_callV3_M (pc' := 151) (pla_setMending_sp 2 x1 x2 μ) dX2_findMending_148 rfl mg_X2_setMending mi_X2_setMending (Or.inl ⟨2, _, TX2, 10, s88_46, rfl⟩) ⟨Nat.le_of_ble_eq_true rfl, Nat.le_of_ble_eq_true rfl⟩ w_160 (Nat.le_of_ble_eq_true rfl) (fun μ2 hμ2 => ?_)
        refine sr_aload_n (i := 0) (pc' := 152) dX2_findMending_151 rfl rfl rfl ?_
        refine sr_iload_n (i := 2) (pc' := 153) dX2_findMending_152 rfl rfl rfl ?_
        refine sr_callV1_I (pc' := 156) (pla_isWorn_sp x2 μ2) dX2_findMending_153 rfl mg_X2_isWorn mi_X2_isWorn (Or.inl ⟨2, _, TX2, 10, s88_46, rfl⟩) ⟨Nat.le_of_ble_eq_true rfl, Nat.le_of_ble_eq_true rfl⟩ w_158 (Nat.le_of_ble_eq_true rfl) (fun u3 hu3 hcu3 hzu3 => ?_)
        refine sr_if_eq (pc' := 159) (tgt := 176) dX2_findMending_156 rfl rfl (fun c156 => ?_) (fun c156 => ?_)
        · exact pla_findMending_176_s ih x1 x2 μ2
        · refine sr_aload_n (i := 0) (pc' := 160) dX2_findMending_159 rfl rfl rfl ?_
          refine sr_getR (k := 1) (b := 35) (pc' := 163) cls_X2 dX2_findMending_160 rfl s88_46 rfl (by decide) w_161 ?_
          refine sr_aload_n (i := 0) (pc' := 164) dX2_findMending_163 rfl rfl rfl ?_
          refine sr_getR (k := 2) (b := 47) (pc' := 167) cls_X2 dX2_findMending_164 rfl s88_46 rfl (by decide) w_162 ?_
          refine sr_iload_n (i := 1) (pc' := 168) dX2_findMending_167 rfl rfl rfl ?_
          refine sr_iload_n (i := 2) (pc' := 169) dX2_findMending_168 rfl rfl rfl ?_
          refine sr_callVN3_IM (pc' := 172) (run_allDone_sp isOrder_47 x1 x2 μ2) dX2_findMending_169 rfl mg_X5_allDone mi_X5_allDone (Or.inl ⟨5, _, TX5, 13, s88_35, rfl⟩) ⟨Nat.le_of_ble_eq_true rfl, Nat.le_of_ble_eq_true rfl⟩ w_163 (Nat.le_of_ble_eq_true rfl) (fun u4 hu4 hcu4 hzu4 => ?_)
          refine sr_if_eq (pc' := 175) (tgt := 176) dX2_findMending_172 rfl rfl (fun c172 => ?_) (fun c172 => ?_)
          · exact pla_findMending_176_s ih x1 x2 u4.2
          · exact sr_ret dX2_findMending_175 rfl rfl
def pla_findMending_110   : Nat → Int → Mem → Option (Mem)
  | 0, _, _ => none
  | n + 1, x1, μ => if (μ 1 9) < x1 then ((pla_setMending (-4) (-4) (-4) μ).bind fun μ1 => some μ1) else (bnd (wI (x1 + 1)) fun v2 => pla_findMending_125 (pla_findMending_110 n) BIG x1 v2 μ)
theorem pla_findMending_110_s {l : Launch} {G : Nv}     : ∀ (n : Nat) (x1 : Int) (μ : Mem), SR l G S88 mX2_findMending (pla_findMending_110 n x1 μ) jM 110 [some (vR 46), some (vI x1), none] [] μ := by
  intro n
  induction n with
  | zero => intro x1 μ; exact sr_none
  | succ n ih =>
    intro x1 μ
    rw [pla_findMending_110.eq_2]
    refine sr_iload_n (i := 1) (pc' := 111) dX2_findMending_110 rfl rfl rfl ?_
    refine sr_aload_n (i := 0) (pc' := 112) dX2_findMending_111 rfl rfl rfl ?_
    refine sr_getR (k := 0) (b := 1) (pc' := 115) cls_X2 dX2_findMending_112 rfl s88_46 rfl (by decide) w_154 ?_
    refine sr_getI (k := 9) (pc' := 118) cls_X4 dX2_findMending_115 rfl isRoad_1.1 rfl (by decide) w_159 ?_
    refine sr_icmp_gt (pc' := 121) (tgt := 188) dX2_findMending_118 rfl rfl (fun c118 => ?_) (fun c118 => ?_)
    · refine sr_aload_n (i := 0) (pc' := 189) dX2_findMending_188 rfl rfl rfl ?_
      refine sr_bipush (pc' := 191) dX2_findMending_189 rfl (by decide) (by decide) ?_
      refine sr_bipush (pc' := 193) dX2_findMending_191 rfl (by decide) (by decide) ?_
      refine sr_bipush (pc' := 195) dX2_findMending_193 rfl (by decide) (by decide) ?_
      refine sr_callV3_M (pc' := 198) (pla_setMending_sp (-4) (-4) (-4) μ) dX2_findMending_195 rfl mg_X2_setMending mi_X2_setMending (Or.inl ⟨2, _, TX2, 10, s88_46, rfl⟩) ⟨Nat.le_of_ble_eq_true rfl, Nat.le_of_ble_eq_true rfl⟩ w_160 (Nat.le_of_ble_eq_true rfl) (fun μ1 hμ1 => ?_)
      exact sr_ret dX2_findMending_198 rfl rfl
    · refine sr_iload_n (i := 1) (pc' := 122) dX2_findMending_121 rfl rfl rfl ?_
      refine sr_iconst (pc' := 123) dX2_findMending_122 rfl (by decide) ?_
      refine sr_iadd (pc' := 124) dX2_findMending_123 rfl ?_
      refine sr_bnd (fun v2 hv2 => ?_)
      refine sr_istore_n (i := 2) (lv' := [some (vR 46), some (vI x1), some (vI v2)]) (pc' := 125) dX2_findMending_124 rfl rfl (by decide) rfl ?_
      exact pla_findMending_125_s ih BIG x1 v2 μ
def pla_findMending_57   : Nat → Int → Mem → Option (Mem)
  | 0, _, _ => none
  | n + 1, x1, μ => if (μ 1 9) < x1 then (pla_findMending_110 BIG 0 μ) else ((pla_setMending 1 x1 (-4) μ).bind fun μ1 => (pla_isWorn μ1 x1).bind fun u2 => if u2 = 0 then (pla_findMending_102 (pla_findMending_57 n) x1 μ1) else ((run_allDone 47 x1 (-4) μ1).bind fun u3 => if u3.1 = 0 then (pla_findMending_102 (pla_findMending_57 n) x1 u3.2) else (some u3.2)))
theorem pla_findMending_57_s {l : Launch} {G : Nv}     : ∀ (n : Nat) (x1 : Int) (μ : Mem), SR l G S88 mX2_findMending (pla_findMending_57 n x1 μ) jM 57 [some (vR 46), some (vI x1), none] [] μ := by
  intro n
  induction n with
  | zero => intro x1 μ; exact sr_none
  | succ n ih =>
    intro x1 μ
    rw [pla_findMending_57.eq_2]
    refine sr_iload_n (i := 1) (pc' := 58) dX2_findMending_57 rfl rfl rfl ?_
    refine sr_aload_n (i := 0) (pc' := 59) dX2_findMending_58 rfl rfl rfl ?_
    refine sr_getR (k := 0) (b := 1) (pc' := 62) cls_X2 dX2_findMending_59 rfl s88_46 rfl (by decide) w_154 ?_
    refine sr_getI (k := 9) (pc' := 65) cls_X4 dX2_findMending_62 rfl isRoad_1.1 rfl (by decide) w_159 ?_
    refine sr_icmp_gt (pc' := 68) (tgt := 108) dX2_findMending_65 rfl rfl (fun c65 => ?_) (fun c65 => ?_)
    · refine sr_iconst (pc' := 109) dX2_findMending_108 rfl (by decide) ?_
      refine sr_istore_n (i := 1) (lv' := [some (vR 46), some (vI 0), none]) (pc' := 110) dX2_findMending_109 rfl rfl (by decide) rfl ?_
      exact pla_findMending_110_s BIG 0 μ
    · refine sr_aload_n (i := 0) (pc' := 69) dX2_findMending_68 rfl rfl rfl ?_
      refine sr_iconst (pc' := 70) dX2_findMending_69 rfl (by decide) ?_
      refine sr_iload_n (i := 1) (pc' := 71) dX2_findMending_70 rfl rfl rfl ?_
      refine sr_bipush (pc' := 73) dX2_findMending_71 rfl (by decide) (by decide) ?_
      refine sr_callV3_M (pc' := 76) (pla_setMending_sp 1 x1 (-4) μ) dX2_findMending_73 rfl mg_X2_setMending mi_X2_setMending (Or.inl ⟨2, _, TX2, 10, s88_46, rfl⟩) ⟨Nat.le_of_ble_eq_true rfl, Nat.le_of_ble_eq_true rfl⟩ w_160 (Nat.le_of_ble_eq_true rfl) (fun μ1 hμ1 => ?_)
      refine sr_aload_n (i := 0) (pc' := 77) dX2_findMending_76 rfl rfl rfl ?_
      refine sr_iload_n (i := 1) (pc' := 78) dX2_findMending_77 rfl rfl rfl ?_
      refine sr_callV1_I (pc' := 81) (pla_isWorn_sp x1 μ1) dX2_findMending_78 rfl mg_X2_isWorn mi_X2_isWorn (Or.inl ⟨2, _, TX2, 10, s88_46, rfl⟩) ⟨Nat.le_of_ble_eq_true rfl, Nat.le_of_ble_eq_true rfl⟩ w_158 (Nat.le_of_ble_eq_true rfl) (fun u2 hu2 hcu2 hzu2 => ?_)
      refine sr_if_eq (pc' := 84) (tgt := 102) dX2_findMending_81 rfl rfl (fun c81 => ?_) (fun c81 => ?_)
      · exact pla_findMending_102_s ih x1 μ1
      · refine sr_aload_n (i := 0) (pc' := 85) dX2_findMending_84 rfl rfl rfl ?_
        refine sr_getR (k := 1) (b := 35) (pc' := 88) cls_X2 dX2_findMending_85 rfl s88_46 rfl (by decide) w_161 ?_
        refine sr_aload_n (i := 0) (pc' := 89) dX2_findMending_88 rfl rfl rfl ?_
        refine sr_getR (k := 2) (b := 47) (pc' := 92) cls_X2 dX2_findMending_89 rfl s88_46 rfl (by decide) w_162 ?_
        refine sr_iload_n (i := 1) (pc' := 93) dX2_findMending_92 rfl rfl rfl ?_
        refine sr_bipush (pc' := 95) dX2_findMending_93 rfl (by decide) (by decide) ?_
        refine sr_callVN3_IM (pc' := 98) (run_allDone_sp isOrder_47 x1 (-4) μ1) dX2_findMending_95 rfl mg_X5_allDone mi_X5_allDone (Or.inl ⟨5, _, TX5, 13, s88_35, rfl⟩) ⟨Nat.le_of_ble_eq_true rfl, Nat.le_of_ble_eq_true rfl⟩ w_163 (Nat.le_of_ble_eq_true rfl) (fun u3 hu3 hcu3 hzu3 => ?_)
        refine sr_if_eq (pc' := 101) (tgt := 102) dX2_findMending_98 rfl rfl (fun c98 => ?_) (fun c98 => ?_)
        · exact pla_findMending_102_s ih x1 u3.2
        · exact sr_ret dX2_findMending_101 rfl rfl
def pla_findMending   (μ : Mem) : Option (Mem) := if (μ 46 5) = 0 then (bnd (mset μ 46 5 1) fun μ1 => (ord_begin 47 (μ1 1 10) μ1).bind fun μ2 => (pla_setMending 0 (-4) (-4) μ2).bind fun μ3 => (run_allDone 47 (-4) (-4) μ3).bind fun u4 => if u4.1 = 0 then (pla_findMending_57 BIG 0 u4.2) else (some u4.2)) else (some μ)
theorem pla_findMending_sp {l : Launch} {G : Nv}   (μ : Mem) : SP l G S88 mX2_findMending [vR 46] μ (pla_findMending μ) jM := by
  refine sp_go (lv := [some (vR 46), none, none]) pn_X2 (Nat.le_of_ble_eq_true rfl) rfl ?_
  unfold pla_findMending
  refine sr_aload_n (i := 0) (pc' := 1) dX2_findMending_0 rfl rfl rfl ?_
  refine sr_getZ (k := 5) (pc' := 4) cls_X2 dX2_findMending_1 rfl s88_46 rfl (by decide) w_16 ?_
  refine sr_if_eq (pc' := 7) (tgt := 8) dX2_findMending_4 rfl rfl (fun c4 => ?_) (fun c4 => ?_)
  · refine sr_aload_n (i := 0) (pc' := 9) dX2_findMending_8 rfl rfl rfl ?_
    refine sr_iconst (pc' := 10) dX2_findMending_9 rfl (by decide) ?_
    refine sr_putZ (k := 5) (pc' := 13) cls_X2 dX2_findMending_10 rfl s88_46 rfl (by decide) w_16 rfl rfl (Or.inr rfl) (fun μ1 hμ1 => ?_)
    refine sr_aload_n (i := 0) (pc' := 14) dX2_findMending_13 rfl rfl rfl ?_
    refine sr_getR (k := 2) (b := 47) (pc' := 17) cls_X2 dX2_findMending_14 rfl s88_46 rfl (by decide) w_162 ?_
    refine sr_aload_n (i := 0) (pc' := 18) dX2_findMending_17 rfl rfl rfl ?_
    refine sr_getR (k := 0) (b := 1) (pc' := 21) cls_X2 dX2_findMending_18 rfl s88_46 rfl (by decide) w_154 ?_
    refine sr_getI (k := 10) (pc' := 24) cls_X4 dX2_findMending_21 rfl isRoad_1.1 rfl (by decide) w_164 ?_
    refine sr_callVN1_M (pc' := 27) (ord_begin_sp isOrder_47 (μ1 1 10) μ1) dX2_findMending_24 rfl mg_X1_begin mi_X1_begin (Or.inl ⟨1, _, TX1, 2, isOrder_47.1, rfl⟩) ⟨Nat.le_of_ble_eq_true rfl, Nat.le_of_ble_eq_true rfl⟩ w_165 (Nat.le_of_ble_eq_true rfl) (fun μ2 hμ2 => ?_)
    refine sr_aload_n (i := 0) (pc' := 28) dX2_findMending_27 rfl rfl rfl ?_
    refine sr_iconst (pc' := 29) dX2_findMending_28 rfl (by decide) ?_
    refine sr_bipush (pc' := 31) dX2_findMending_29 rfl (by decide) (by decide) ?_
    refine sr_bipush (pc' := 33) dX2_findMending_31 rfl (by decide) (by decide) ?_
    refine sr_callV3_M (pc' := 36) (pla_setMending_sp 0 (-4) (-4) μ2) dX2_findMending_33 rfl mg_X2_setMending mi_X2_setMending (Or.inl ⟨2, _, TX2, 10, s88_46, rfl⟩) ⟨Nat.le_of_ble_eq_true rfl, Nat.le_of_ble_eq_true rfl⟩ w_160 (Nat.le_of_ble_eq_true rfl) (fun μ3 hμ3 => ?_)
    refine sr_aload_n (i := 0) (pc' := 37) dX2_findMending_36 rfl rfl rfl ?_
    refine sr_getR (k := 1) (b := 35) (pc' := 40) cls_X2 dX2_findMending_37 rfl s88_46 rfl (by decide) w_161 ?_
    refine sr_aload_n (i := 0) (pc' := 41) dX2_findMending_40 rfl rfl rfl ?_
    refine sr_getR (k := 2) (b := 47) (pc' := 44) cls_X2 dX2_findMending_41 rfl s88_46 rfl (by decide) w_162 ?_
    refine sr_bipush (pc' := 46) dX2_findMending_44 rfl (by decide) (by decide) ?_
    refine sr_bipush (pc' := 48) dX2_findMending_46 rfl (by decide) (by decide) ?_
    refine sr_callVN3_IM (pc' := 51) (run_allDone_sp isOrder_47 (-4) (-4) μ3) dX2_findMending_48 rfl mg_X5_allDone mi_X5_allDone (Or.inl ⟨5, _, TX5, 13, s88_35, rfl⟩) ⟨Nat.le_of_ble_eq_true rfl, Nat.le_of_ble_eq_true rfl⟩ w_163 (Nat.le_of_ble_eq_true rfl) (fun u4 hu4 hcu4 hzu4 => ?_)
    refine sr_if_eq (pc' := 54) (tgt := 55) dX2_findMending_51 rfl rfl (fun c51 => ?_) (fun c51 => ?_)
    · refine sr_iconst (pc' := 56) dX2_findMending_55 rfl (by decide) ?_
      refine sr_istore_n (i := 1) (lv' := [some (vR 46), some (vI 0), none]) (pc' := 57) dX2_findMending_56 rfl rfl (by decide) rfl ?_
      exact pla_findMending_57_s BIG 0 u4.2
    · exact sr_ret dX2_findMending_54 rfl rfl
  · exact sr_ret dX2_findMending_7 rfl rfl
