def run_begin_112 (o1 : Nat)  : Nat → Int → Mem → Option (Mem)
  | 0, _, _ => none
  | n + 1, x2, μ => if (μ 1 10) ≤ x2 then (bnd (mset μ 35 12 0) fun μ1 => some μ1) else ((roa_part 1 μ x2 6).bind fun u2 => bnd (mset μ 35 11 (iMax (μ 35 11) u2)) fun μ3 => run_begin_112 o1 n (wI (x2 + 1)) μ3)
theorem run_begin_112_s {l : Launch} {G : Nv} {o1 : Nat} (ho1 : IsOrder S88 o1)   : ∀ (n : Nat) (x2 : Int) (μ : Mem), SR l G S88 mX5_begin (run_begin_112 o1 n x2 μ) jM 112 [some (vR 35), none, some (vI x2)] [] μ := by
  intro n
  induction n with
  | zero => intro x2 μ; exact sr_none
  | succ n ih =>
    intro x2 μ
    rw [run_begin_112.eq_2]
    refine sr_iload_n (i := 2) (pc' := 113) dX5_begin_112 rfl rfl rfl ?_
    refine sr_aload_n (i := 0) (pc' := 114) dX5_begin_113 rfl rfl rfl ?_
    refine sr_getR (k := 0) (b := 1) (pc' := 117) cls_X5 dX5_begin_114 rfl s88_35 rfl (by decide) w_64 ?_
    refine sr_getI (k := 10) (pc' := 120) cls_X4 dX5_begin_117 rfl isRoad_1.1 rfl (by decide) w_65 ?_
    refine sr_icmp_ge (pc' := 123) (tgt := 150) dX5_begin_120 rfl rfl (fun c120 => ?_) (fun c120 => ?_)
    · refine sr_aload_n (i := 0) (pc' := 151) dX5_begin_150 rfl rfl rfl ?_
      refine sr_iconst (pc' := 152) dX5_begin_151 rfl (by decide) ?_
      refine sr_putI (k := 12) (pc' := 155) cls_X5 dX5_begin_152 rfl s88_35 rfl (by decide) w_66 rfl rfl (fun μ1 hμ1 => ?_)
      exact sr_ret dX5_begin_155 rfl rfl
    · refine sr_aload_n (i := 0) (pc' := 124) dX5_begin_123 rfl rfl rfl ?_
      refine sr_aload_n (i := 0) (pc' := 125) dX5_begin_124 rfl rfl rfl ?_
      refine sr_getI (k := 11) (pc' := 128) cls_X5 dX5_begin_125 rfl s88_35 rfl (by decide) w_67 ?_
      refine sr_aload_n (i := 0) (pc' := 129) dX5_begin_128 rfl rfl rfl ?_
      refine sr_getR (k := 0) (b := 1) (pc' := 132) cls_X5 dX5_begin_129 rfl s88_35 rfl (by decide) w_64 ?_
      refine sr_iload_n (i := 2) (pc' := 133) dX5_begin_132 rfl rfl rfl ?_
      refine sr_bipush (pc' := 135) dX5_begin_133 rfl (by decide) (by decide) ?_
      refine sr_callVN2_I (pc' := 138) (roa_part_sp isRoad_1 x2 6 μ) dX5_begin_135 rfl mg_X4_part mi_X4_part (Or.inl ⟨4, _, TX4, 12, isRoad_1.1, rfl⟩) ⟨Nat.le_of_ble_eq_true rfl, Nat.le_of_ble_eq_true rfl⟩ w_68 (Nat.le_of_ble_eq_true rfl) (fun u2 hu2 hcu2 hzu2 => ?_)
      refine sr_mmax (pc' := 141) dX5_begin_138 rfl w_69 (Nat.le_of_ble_eq_true rfl) (Nat.le_of_ble_eq_true rfl) (Nat.le_of_ble_eq_true rfl) ?_
      refine sr_putI (k := 11) (pc' := 144) cls_X5 dX5_begin_141 rfl s88_35 rfl (by decide) w_67 rfl rfl (fun μ3 hμ3 => ?_)
      refine sr_iinc (lv' := [some (vR 35), none, some (vI (wI (x2 + 1)))]) (pc' := 147) dX5_begin_144 rfl (by decide) rfl rfl ?_
      refine sr_goto (pc' := 112) dX5_begin_147 rfl ?_
      exact ih (wI (x2 + 1)) μ3
def run_begin_10 (o1 : Nat)  : Nat → Int → Mem → Option (Mem)
  | 0, _, _ => none
  | n + 1, x2, μ => if 5 ≤ x2 then ((ww_wipe 39 5 0 μ).bind fun μ1 => (ww_wipe 40 5 0 μ1).bind fun μ2 => (ww_wipe 41 5 0 μ2).bind fun μ3 => (ww_copy 5 63 42 63 μ3).bind fun μ4 => (ww_wipe 43 63 0 μ4).bind fun μ5 => bnd (mset μ5 35 8 0) fun μ6 => bnd (mset μ6 35 9 (μ6 1 10)) fun μ7 => bnd (mset μ7 35 10 0) fun μ8 => bnd (mset μ8 35 11 0) fun μ9 => run_begin_112 o1 BIG 0 μ9) else ((roa_part 1 μ x2 4).bind fun u10 => (ww_put 38 5 x2 u10 μ).bind fun μ11 => run_begin_10 o1 n (wI (x2 + 1)) μ11)
theorem run_begin_10_s {l : Launch} {G : Nv} {o1 : Nat} (ho1 : IsOrder S88 o1)   : ∀ (n : Nat) (x2 : Int) (μ : Mem), SR l G S88 mX5_begin (run_begin_10 o1 n x2 μ) jM 10 [some (vR 35), none, some (vI x2)] [] μ := by
  intro n
  induction n with
  | zero => intro x2 μ; exact sr_none
  | succ n ih =>
    intro x2 μ
    rw [run_begin_10.eq_2]
    refine sr_iload_n (i := 2) (pc' := 11) dX5_begin_10 rfl rfl rfl ?_
    refine sr_iconst (pc' := 12) dX5_begin_11 rfl (by decide) ?_
    refine sr_icmp_ge (pc' := 15) (tgt := 38) dX5_begin_12 rfl rfl (fun c12 => ?_) (fun c12 => ?_)
    · refine sr_aload_n (i := 0) (pc' := 39) dX5_begin_38 rfl rfl rfl ?_
      refine sr_getR (k := 3) (b := 39) (pc' := 42) cls_X5 dX5_begin_39 rfl s88_35 rfl (by decide) w_70 ?_
      refine sr_iconst (pc' := 43) dX5_begin_42 rfl (by decide) ?_
      refine sr_callSN2_M (pc' := 46) (ww_wipe_sp s88_39 (by decide) 0 μ) dX5_begin_43 rfl mg_X8_wipe ms_X8_wipe ⟨Nat.le_of_ble_eq_true rfl, Nat.le_of_ble_eq_true rfl⟩ w_71 (Nat.le_of_ble_eq_true rfl) (fun μ1 hμ1 => ?_)
      refine sr_aload_n (i := 0) (pc' := 47) dX5_begin_46 rfl rfl rfl ?_
      refine sr_getR (k := 4) (b := 40) (pc' := 50) cls_X5 dX5_begin_47 rfl s88_35 rfl (by decide) w_72 ?_
      refine sr_iconst (pc' := 51) dX5_begin_50 rfl (by decide) ?_
      refine sr_callSN2_M (pc' := 54) (ww_wipe_sp s88_40 (by decide) 0 μ1) dX5_begin_51 rfl mg_X8_wipe ms_X8_wipe ⟨Nat.le_of_ble_eq_true rfl, Nat.le_of_ble_eq_true rfl⟩ w_71 (Nat.le_of_ble_eq_true rfl) (fun μ2 hμ2 => ?_)
      refine sr_aload_n (i := 0) (pc' := 55) dX5_begin_54 rfl rfl rfl ?_
      refine sr_getR (k := 5) (b := 41) (pc' := 58) cls_X5 dX5_begin_55 rfl s88_35 rfl (by decide) w_73 ?_
      refine sr_iconst (pc' := 59) dX5_begin_58 rfl (by decide) ?_
      refine sr_callSN2_M (pc' := 62) (ww_wipe_sp s88_41 (by decide) 0 μ2) dX5_begin_59 rfl mg_X8_wipe ms_X8_wipe ⟨Nat.le_of_ble_eq_true rfl, Nat.le_of_ble_eq_true rfl⟩ w_71 (Nat.le_of_ble_eq_true rfl) (fun μ3 hμ3 => ?_)
      refine sr_aload_n (i := 0) (pc' := 63) dX5_begin_62 rfl rfl rfl ?_
      refine sr_getR (k := 0) (b := 1) (pc' := 66) cls_X5 dX5_begin_63 rfl s88_35 rfl (by decide) w_64 ?_
      refine sr_getR (k := 3) (b := 5) (pc' := 69) cls_X4 dX5_begin_66 rfl isRoad_1.1 rfl (by decide) w_74 ?_
      refine sr_aload_n (i := 0) (pc' := 70) dX5_begin_69 rfl rfl rfl ?_
      refine sr_getR (k := 6) (b := 42) (pc' := 73) cls_X5 dX5_begin_70 rfl s88_35 rfl (by decide) w_75 ?_
      refine sr_callSN2_M (pc' := 76) (ww_copy_sp isRoad_1.2.2.2.2.1 (by decide) s88_42 (by decide) μ3) dX5_begin_73 rfl mg_X8_copy ms_X8_copy ⟨Nat.le_of_ble_eq_true rfl, Nat.le_of_ble_eq_true rfl⟩ w_76 (Nat.le_of_ble_eq_true rfl) (fun μ4 hμ4 => ?_)
      refine sr_aload_n (i := 0) (pc' := 77) dX5_begin_76 rfl rfl rfl ?_
      refine sr_getR (k := 7) (b := 43) (pc' := 80) cls_X5 dX5_begin_77 rfl s88_35 rfl (by decide) w_77 ?_
      refine sr_iconst (pc' := 81) dX5_begin_80 rfl (by decide) ?_
      refine sr_callSN2_M (pc' := 84) (ww_wipe_sp s88_43 (by decide) 0 μ4) dX5_begin_81 rfl mg_X8_wipe ms_X8_wipe ⟨Nat.le_of_ble_eq_true rfl, Nat.le_of_ble_eq_true rfl⟩ w_71 (Nat.le_of_ble_eq_true rfl) (fun μ5 hμ5 => ?_)
      refine sr_aload_n (i := 0) (pc' := 85) dX5_begin_84 rfl rfl rfl ?_
      refine sr_iconst (pc' := 86) dX5_begin_85 rfl (by decide) ?_
      refine sr_putI (k := 8) (pc' := 89) cls_X5 dX5_begin_86 rfl s88_35 rfl (by decide) w_78 rfl rfl (fun μ6 hμ6 => ?_)
      refine sr_aload_n (i := 0) (pc' := 90) dX5_begin_89 rfl rfl rfl ?_
      refine sr_aload_n (i := 0) (pc' := 91) dX5_begin_90 rfl rfl rfl ?_
      refine sr_getR (k := 0) (b := 1) (pc' := 94) cls_X5 dX5_begin_91 rfl s88_35 rfl (by decide) w_64 ?_
      refine sr_getI (k := 10) (pc' := 97) cls_X4 dX5_begin_94 rfl isRoad_1.1 rfl (by decide) w_65 ?_
      refine sr_putI (k := 9) (pc' := 100) cls_X5 dX5_begin_97 rfl s88_35 rfl (by decide) w_79 rfl rfl (fun μ7 hμ7 => ?_)
      refine sr_aload_n (i := 0) (pc' := 101) dX5_begin_100 rfl rfl rfl ?_
      refine sr_iconst (pc' := 102) dX5_begin_101 rfl (by decide) ?_
      refine sr_putI (k := 10) (pc' := 105) cls_X5 dX5_begin_102 rfl s88_35 rfl (by decide) w_80 rfl rfl (fun μ8 hμ8 => ?_)
      refine sr_aload_n (i := 0) (pc' := 106) dX5_begin_105 rfl rfl rfl ?_
      refine sr_iconst (pc' := 107) dX5_begin_106 rfl (by decide) ?_
      refine sr_putI (k := 11) (pc' := 110) cls_X5 dX5_begin_107 rfl s88_35 rfl (by decide) w_67 rfl rfl (fun μ9 hμ9 => ?_)
      refine sr_iconst (pc' := 111) dX5_begin_110 rfl (by decide) ?_
      refine sr_istore_n (i := 2) (lv' := [some (vR 35), none, some (vI 0)]) (pc' := 112) dX5_begin_111 rfl rfl (by decide) rfl ?_
      exact run_begin_112_s ho1 BIG 0 μ9
    · refine sr_aload_n (i := 0) (pc' := 16) dX5_begin_15 rfl rfl rfl ?_
      refine sr_getR (k := 2) (b := 38) (pc' := 19) cls_X5 dX5_begin_16 rfl s88_35 rfl (by decide) w_81 ?_
      refine sr_iload_n (i := 2) (pc' := 20) dX5_begin_19 rfl rfl rfl ?_
      refine sr_aload_n (i := 0) (pc' := 21) dX5_begin_20 rfl rfl rfl ?_
      refine sr_getR (k := 0) (b := 1) (pc' := 24) cls_X5 dX5_begin_21 rfl s88_35 rfl (by decide) w_64 ?_
      refine sr_iload_n (i := 2) (pc' := 25) dX5_begin_24 rfl rfl rfl ?_
      refine sr_iconst (pc' := 26) dX5_begin_25 rfl (by decide) ?_
      refine sr_callVN2_I (pc' := 29) (roa_part_sp isRoad_1 x2 4 μ) dX5_begin_26 rfl mg_X4_part mi_X4_part (Or.inl ⟨4, _, TX4, 12, isRoad_1.1, rfl⟩) ⟨Nat.le_of_ble_eq_true rfl, Nat.le_of_ble_eq_true rfl⟩ w_68 (Nat.le_of_ble_eq_true rfl) (fun u10 hu10 hcu10 hzu10 => ?_)
      refine sr_callSN3_M (pc' := 32) (ww_put_sp s88_38 (by decide) x2 u10 μ) dX5_begin_29 rfl mg_X8_put ms_X8_put ⟨Nat.le_of_ble_eq_true rfl, Nat.le_of_ble_eq_true rfl⟩ w_82 (Nat.le_of_ble_eq_true rfl) (fun μ11 hμ11 => ?_)
      refine sr_iinc (lv' := [some (vR 35), none, some (vI (wI (x2 + 1)))]) (pc' := 35) dX5_begin_32 rfl (by decide) rfl rfl ?_
      refine sr_goto (pc' := 10) dX5_begin_35 rfl ?_
      exact ih (wI (x2 + 1)) μ11
def run_begin (o1 : Nat)  (μ : Mem) : Option (Mem) := (ord_copyOf 36 o1 μ).bind fun μ1 => run_begin_10 o1 BIG 0 μ1
theorem run_begin_sp {l : Launch} {G : Nv} {o1 : Nat} (ho1 : IsOrder S88 o1) (μ : Mem) : SP l G S88 mX5_begin [vR 35, vR o1] μ (run_begin o1 μ) jM := by
  refine sp_go (lv := [some (vR 35), some (vR o1), none]) pn_X5 (Nat.le_of_ble_eq_true rfl) rfl ?_
  unfold run_begin
  refine sr_aload_n (i := 0) (pc' := 1) dX5_begin_0 rfl rfl rfl ?_
  refine sr_getR (k := 1) (b := 36) (pc' := 4) cls_X5 dX5_begin_1 rfl s88_35 rfl (by decide) w_83 ?_
  refine sr_aload_n (i := 1) (pc' := 5) dX5_begin_4 rfl rfl rfl ?_
  refine sr_callVN1_M (pc' := 8) (ord_copyOf_sp isOrder_36 ho1 μ) dX5_begin_5 rfl mg_X1_copyOf mi_X1_copyOf (Or.inl ⟨1, _, TX1, 2, isOrder_36.1, rfl⟩) ⟨Nat.le_of_ble_eq_true rfl, Nat.le_of_ble_eq_true rfl⟩ w_84 (Nat.le_of_ble_eq_true rfl) (fun μ1 hμ1 => ?_)
  refine sr_iconst (pc' := 9) dX5_begin_8 rfl (by decide) ?_
  refine sr_istore_n (i := 2) (lv' := [some (vR 35), some (vR o1), some (vI 0)]) (pc' := 10) dX5_begin_9 rfl rfl (by decide) rfl ?_
  refine sr_fgt (fgt_s (fgt_n (fgt_s fgt_nil))) ?_
  exact run_begin_10_s ho1 BIG 0 μ1
def run_isDone (μ : Mem)  (x1 : Int) : Option (Int) := (ww_at 41 5 μ x1).bind fun u1 => if u1 ≤ 0 then (some 0) else (some 1)
theorem run_isDone_sp {l : Launch} {G : Nv}   (x1 : Int) (μ : Mem) : SP l G S88 mX5_isDone [vR 35, vI x1] μ (run_isDone μ x1) (jI μ) := by
  refine sp_go (lv := [some (vR 35), some (vI x1)]) pn_X5 (Nat.le_of_ble_eq_true rfl) rfl ?_
  unfold run_isDone
  refine sr_aload_n (i := 0) (pc' := 1) dX5_isDone_0 rfl rfl rfl ?_
  refine sr_getR (k := 5) (b := 41) (pc' := 4) cls_X5 dX5_isDone_1 rfl s88_35 rfl (by decide) w_73 ?_
  refine sr_iload_n (i := 1) (pc' := 5) dX5_isDone_4 rfl rfl rfl ?_
  refine sr_callSN2_I (pc' := 8) (ww_at_sp s88_41 (by decide) x1 μ) dX5_isDone_5 rfl mg_X8_at ms_X8_at ⟨Nat.le_of_ble_eq_true rfl, Nat.le_of_ble_eq_true rfl⟩ w_85 (Nat.le_of_ble_eq_true rfl) (fun u1 hu1 hcu1 hzu1 => ?_)
  refine sr_if_le (pc' := 11) (tgt := 15) dX5_isDone_8 rfl rfl (fun c8 => ?_) (fun c8 => ?_)
  · refine sr_iconst (pc' := 16) dX5_isDone_15 rfl (by decide) ?_
    exact sr_iretZ dX5_isDone_16 rfl (Or.inl rfl) rfl
  · refine sr_iconst (pc' := 12) dX5_isDone_11 rfl (by decide) ?_
    refine sr_goto (pc' := 16) dX5_isDone_12 rfl ?_
    exact sr_iretZ dX5_isDone_16 rfl (Or.inr rfl) rfl
def roa_nextYard (r : Nat) (μ : Mem)  (x1 x2 : Int) : Option (Int) := (roa_part r μ x1 5).bind fun u1 => if u1 ≤ x2 then (some (wI (x2 - 1))) else (some (wI (x2 + 1)))
theorem roa_nextYard_sp {l : Launch} {G : Nv} {Sh : Shp} {r : Nat} (hr : IsRoad Sh r) (x1 x2 : Int) (μ : Mem) : SP l G Sh mX4_nextYard [vR r, vI x1, vI x2] μ (roa_nextYard r μ x1 x2) (jI μ) := by
  refine sp_go (lv := [some (vR r), some (vI x1), some (vI x2)]) pn_X4 (Nat.le_of_ble_eq_true rfl) rfl ?_
  unfold roa_nextYard
  refine sr_aload_n (i := 0) (pc' := 1) dX4_nextYard_0 rfl rfl rfl ?_
  refine sr_iload_n (i := 1) (pc' := 2) dX4_nextYard_1 rfl rfl rfl ?_
  refine sr_iconst (pc' := 3) dX4_nextYard_2 rfl (by decide) ?_
  refine sr_callV2_I (pc' := 6) (roa_part_sp hr x1 5 μ) dX4_nextYard_3 rfl mg_X4_part mi_X4_part (Or.inl ⟨4, _, TX4, 12, hr.1, rfl⟩) ⟨Nat.le_of_ble_eq_true rfl, Nat.le_of_ble_eq_true rfl⟩ w_32 (Nat.le_of_ble_eq_true rfl) (fun u1 hu1 hcu1 hzu1 => ?_)
  refine sr_iload_n (i := 2) (pc' := 7) dX4_nextYard_6 rfl rfl rfl ?_
  refine sr_icmp_le (pc' := 10) (tgt := 16) dX4_nextYard_7 rfl rfl (fun c7 => ?_) (fun c7 => ?_)
  · refine sr_iload_n (i := 2) (pc' := 17) dX4_nextYard_16 rfl rfl rfl ?_
    refine sr_iconst (pc' := 18) dX4_nextYard_17 rfl (by decide) ?_
    refine sr_isub (pc' := 19) dX4_nextYard_18 rfl ?_
    exact sr_iretI dX4_nextYard_19 rfl rfl
  · refine sr_iload_n (i := 2) (pc' := 11) dX4_nextYard_10 rfl rfl rfl ?_
    refine sr_iconst (pc' := 12) dX4_nextYard_11 rfl (by decide) ?_
    refine sr_iadd (pc' := 13) dX4_nextYard_12 rfl ?_
    refine sr_goto (pc' := 19) dX4_nextYard_13 rfl ?_
    exact sr_iretI dX4_nextYard_19 rfl rfl
def run_depthOf (μ : Mem)  (x1 : Int) : Option (Int) := (ww_at 42 63 μ x1).bind fun u1 => (ww_at 43 63 μ x1).bind fun u2 => some (iMax 0 (wI (u1 - (wI ((μ 35 8) - u2)))))
theorem run_depthOf_sp {l : Launch} {G : Nv}   (x1 : Int) (μ : Mem) : SP l G S88 mX5_depthOf [vR 35, vI x1] μ (run_depthOf μ x1) (jI μ) := by
  refine sp_go (lv := [some (vR 35), some (vI x1)]) pn_X5 (Nat.le_of_ble_eq_true rfl) rfl ?_
  unfold run_depthOf
  refine sr_iconst (pc' := 1) dX5_depthOf_0 rfl (by decide) ?_
  refine sr_aload_n (i := 0) (pc' := 2) dX5_depthOf_1 rfl rfl rfl ?_
  refine sr_getR (k := 6) (b := 42) (pc' := 5) cls_X5 dX5_depthOf_2 rfl s88_35 rfl (by decide) w_75 ?_
  refine sr_iload_n (i := 1) (pc' := 6) dX5_depthOf_5 rfl rfl rfl ?_
  refine sr_callSN2_I (pc' := 9) (ww_at_sp s88_42 (by decide) x1 μ) dX5_depthOf_6 rfl mg_X8_at ms_X8_at ⟨Nat.le_of_ble_eq_true rfl, Nat.le_of_ble_eq_true rfl⟩ w_85 (Nat.le_of_ble_eq_true rfl) (fun u1 hu1 hcu1 hzu1 => ?_)
  refine sr_aload_n (i := 0) (pc' := 10) dX5_depthOf_9 rfl rfl rfl ?_
  refine sr_getI (k := 8) (pc' := 13) cls_X5 dX5_depthOf_10 rfl s88_35 rfl (by decide) w_78 ?_
  refine sr_aload_n (i := 0) (pc' := 14) dX5_depthOf_13 rfl rfl rfl ?_
  refine sr_getR (k := 7) (b := 43) (pc' := 17) cls_X5 dX5_depthOf_14 rfl s88_35 rfl (by decide) w_77 ?_
  refine sr_iload_n (i := 1) (pc' := 18) dX5_depthOf_17 rfl rfl rfl ?_
  refine sr_callSN2_I (pc' := 21) (ww_at_sp s88_43 (by decide) x1 μ) dX5_depthOf_18 rfl mg_X8_at ms_X8_at ⟨Nat.le_of_ble_eq_true rfl, Nat.le_of_ble_eq_true rfl⟩ w_85 (Nat.le_of_ble_eq_true rfl) (fun u2 hu2 hcu2 hzu2 => ?_)
  refine sr_isub (pc' := 22) dX5_depthOf_21 rfl ?_
  refine sr_isub (pc' := 23) dX5_depthOf_22 rfl ?_
  refine sr_mmax (pc' := 26) dX5_depthOf_23 rfl w_69 (Nat.le_of_ble_eq_true rfl) (Nat.le_of_ble_eq_true rfl) (Nat.le_of_ble_eq_true rfl) ?_
  exact sr_iretI dX5_depthOf_26 rfl rfl
def roa_isBog (r : Nat) (μ : Mem)  (x1 : Int) : Option (Int) := if (iAnd (iShr (μ r 7) x1) 1) = 0 then (some 0) else (some 1)
theorem roa_isBog_sp {l : Launch} {G : Nv} {Sh : Shp} {r : Nat} (hr : IsRoad Sh r) (x1 : Int) (μ : Mem) : SP l G Sh mX4_isBog [vR r, vI x1] μ (roa_isBog r μ x1) (jI μ) := by
  refine sp_go (lv := [some (vR r), some (vI x1)]) pn_X4 (Nat.le_of_ble_eq_true rfl) rfl ?_
  unfold roa_isBog
  refine sr_aload_n (i := 0) (pc' := 1) dX4_isBog_0 rfl rfl rfl ?_
  refine sr_getI (k := 7) (pc' := 4) cls_X4 dX4_isBog_1 rfl hr.1 rfl (by decide) w_10 ?_
  refine sr_iload_n (i := 1) (pc' := 5) dX4_isBog_4 rfl rfl rfl ?_
  refine sr_ishr (pc' := 6) dX4_isBog_5 rfl ?_
  refine sr_iconst (pc' := 7) dX4_isBog_6 rfl (by decide) ?_
  refine sr_iand (pc' := 8) dX4_isBog_7 rfl ?_
  refine sr_if_eq (pc' := 11) (tgt := 15) dX4_isBog_8 rfl rfl (fun c8 => ?_) (fun c8 => ?_)
  · refine sr_iconst (pc' := 16) dX4_isBog_15 rfl (by decide) ?_
    exact sr_iretZ dX4_isBog_16 rfl (Or.inl rfl) rfl
  · refine sr_iconst (pc' := 12) dX4_isBog_11 rfl (by decide) ?_
    refine sr_goto (pc' := 16) dX4_isBog_12 rfl ?_
    exact sr_iretZ dX4_isBog_16 rfl (Or.inr rfl) rfl
def run_isTaken_82 (μ : Mem) (k3 : Int → Int → Int → Int → Option (Int)) (x1 x2 x3 x4 : Int) : Option (Int) := k3 x1 x2 x3 (wI (x4 + 1))
theorem run_isTaken_82_s {l : Launch} {G : Nv}   (μ : Mem) {k3 : Int → Int → Int → Int → Option (Int)} (hk3 : ∀ (x1 x2 x3 x4 : Int) , SR l G S88 mX5_isTaken (k3 x1 x2 x3 x4) (jI μ) 3 [some (vR 35), some (vI x1), some (vI x2), some (vI x3), some (vI x4), none] [] μ) : ∀ (x1 x2 x3 x4 : Int), SR l G S88 mX5_isTaken (run_isTaken_82 μ k3 x1 x2 x3 x4) (jI μ) 82 [some (vR 35), some (vI x1), some (vI x2), some (vI x3), some (vI x4), none] [] μ := by
  intro x1 x2 x3 x4
  unfold run_isTaken_82
  refine sr_iinc (lv' := [some (vR 35), some (vI x1), some (vI x2), some (vI x3), some (vI (wI (x4 + 1))), none]) (pc' := 85) dX5_isTaken_82 rfl (by decide) rfl rfl ?_
  refine sr_goto (pc' := 3) dX5_isTaken_85 rfl ?_
  exact hk3 x1 x2 x3 (wI (x4 + 1))
def run_isTaken_48 (μ : Mem) (k3 : Int → Int → Int → Int → Option (Int)) (x1 x2 x3 x4 s0 : Int) : Option (Int) := if s0 = 0 then (run_isTaken_82 μ k3 x1 x2 x3 x4) else ((roa_isBog 1 μ x2).bind fun u1 => if u1 = 0 then ((roa_part 1 μ x4 1).bind fun u2 => if u2 = x3 then (some 1) else (run_isTaken_82 μ k3 x1 x2 x3 x4)) else (some 1))
theorem run_isTaken_48_s {l : Launch} {G : Nv}   (μ : Mem) {k3 : Int → Int → Int → Int → Option (Int)} (hk3 : ∀ (x1 x2 x3 x4 : Int) , SR l G S88 mX5_isTaken (k3 x1 x2 x3 x4) (jI μ) 3 [some (vR 35), some (vI x1), some (vI x2), some (vI x3), some (vI x4), none] [] μ) : ∀ (x1 x2 x3 x4 s0 : Int), SR l G S88 mX5_isTaken (run_isTaken_48 μ k3 x1 x2 x3 x4 s0) (jI μ) 48 [some (vR 35), some (vI x1), some (vI x2), some (vI x3), some (vI x4), none] [vI s0] μ := by
  intro x1 x2 x3 x4 s0
  unfold run_isTaken_48
  refine sr_istore (lv' := [some (vR 35), some (vI x1), some (vI x2), some (vI x3), some (vI x4), some (vI s0)]) (pc' := 50) dX5_isTaken_48 rfl (by decide) rfl ?_
  refine sr_iload (pc' := 52) dX5_isTaken_50 rfl rfl ?_
  refine sr_if_eq (pc' := 55) (tgt := 82) dX5_isTaken_52 rfl rfl (fun c52 => ?_) (fun c52 => ?_)
  · refine sr_fgt (fgt_s (fgt_s (fgt_s (fgt_s (fgt_s (fgt_n fgt_nil)))))) ?_
    exact run_isTaken_82_s μ hk3 x1 x2 x3 x4
  · refine sr_aload_n (i := 0) (pc' := 56) dX5_isTaken_55 rfl rfl rfl ?_
    refine sr_getR (k := 0) (b := 1) (pc' := 59) cls_X5 dX5_isTaken_56 rfl s88_35 rfl (by decide) w_64 ?_
    refine sr_iload_n (i := 2) (pc' := 60) dX5_isTaken_59 rfl rfl rfl ?_
    refine sr_callVN1_I (pc' := 63) (roa_isBog_sp isRoad_1 x2 μ) dX5_isTaken_60 rfl mg_X4_isBog mi_X4_isBog (Or.inl ⟨4, _, TX4, 12, isRoad_1.1, rfl⟩) ⟨Nat.le_of_ble_eq_true rfl, Nat.le_of_ble_eq_true rfl⟩ w_86 (Nat.le_of_ble_eq_true rfl) (fun u1 hu1 hcu1 hzu1 => ?_)
    refine sr_if_ne (pc' := 66) (tgt := 80) dX5_isTaken_63 rfl rfl (fun c63 => ?_) (fun c63 => ?_)
    · refine sr_aload_n (i := 0) (pc' := 67) dX5_isTaken_66 rfl rfl rfl ?_
      refine sr_getR (k := 0) (b := 1) (pc' := 70) cls_X5 dX5_isTaken_67 rfl s88_35 rfl (by decide) w_64 ?_
      refine sr_iload (pc' := 72) dX5_isTaken_70 rfl rfl ?_
      refine sr_iconst (pc' := 73) dX5_isTaken_72 rfl (by decide) ?_
      refine sr_callVN2_I (pc' := 76) (roa_part_sp isRoad_1 x4 1 μ) dX5_isTaken_73 rfl mg_X4_part mi_X4_part (Or.inl ⟨4, _, TX4, 12, isRoad_1.1, rfl⟩) ⟨Nat.le_of_ble_eq_true rfl, Nat.le_of_ble_eq_true rfl⟩ w_68 (Nat.le_of_ble_eq_true rfl) (fun u2 hu2 hcu2 hzu2 => ?_)
      refine sr_iload_n (i := 3) (pc' := 77) dX5_isTaken_76 rfl rfl rfl ?_
      refine sr_icmp_ne (pc' := 80) (tgt := 82) dX5_isTaken_77 rfl rfl (fun c77 => ?_) (fun c77 => ?_)
      · refine sr_iconst (pc' := 81) dX5_isTaken_80 rfl (by decide) ?_
        exact sr_iretZ dX5_isTaken_81 rfl (Or.inr rfl) rfl
      · refine sr_fgt (fgt_s (fgt_s (fgt_s (fgt_s (fgt_s (fgt_n fgt_nil)))))) ?_
        exact run_isTaken_82_s μ hk3 x1 x2 x3 x4
    · refine sr_iconst (pc' := 81) dX5_isTaken_80 rfl (by decide) ?_
      exact sr_iretZ dX5_isTaken_81 rfl (Or.inr rfl) rfl
def run_isTaken_3 (μ : Mem)  : Nat → Int → Int → Int → Int → Option (Int)
  | 0, _, _, _, _ => none
  | n + 1, x1, x2, x3, x4 => if (μ 1 10) ≤ x4 then (some 0) else (if x4 = x1 then (run_isTaken_48 μ (run_isTaken_3 μ n) x1 x2 x3 x4 0) else ((run_isDone μ x4).bind fun u1 => if u1 = 0 then ((ww_at 38 5 μ x4).bind fun u2 => if u2 = x2 then (run_isTaken_48 μ (run_isTaken_3 μ n) x1 x2 x3 x4 1) else (run_isTaken_48 μ (run_isTaken_3 μ n) x1 x2 x3 x4 0)) else (run_isTaken_48 μ (run_isTaken_3 μ n) x1 x2 x3 x4 0)))
theorem run_isTaken_3_s {l : Launch} {G : Nv}   (μ : Mem)   : ∀ (n : Nat) (x1 x2 x3 x4 : Int), SR l G S88 mX5_isTaken (run_isTaken_3 μ n x1 x2 x3 x4) (jI μ) 3 [some (vR 35), some (vI x1), some (vI x2), some (vI x3), some (vI x4), none] [] μ := by
  intro n
  induction n with
  | zero => intro x1 x2 x3 x4; exact sr_none
  | succ n ih =>
    intro x1 x2 x3 x4
    rw [run_isTaken_3.eq_2]
    refine sr_iload (pc' := 5) dX5_isTaken_3 rfl rfl ?_
    refine sr_aload_n (i := 0) (pc' := 6) dX5_isTaken_5 rfl rfl rfl ?_
    refine sr_getR (k := 0) (b := 1) (pc' := 9) cls_X5 dX5_isTaken_6 rfl s88_35 rfl (by decide) w_64 ?_
    refine sr_getI (k := 10) (pc' := 12) cls_X4 dX5_isTaken_9 rfl isRoad_1.1 rfl (by decide) w_65 ?_
    refine sr_icmp_ge (pc' := 15) (tgt := 88) dX5_isTaken_12 rfl rfl (fun c12 => ?_) (fun c12 => ?_)
    · refine sr_iconst (pc' := 89) dX5_isTaken_88 rfl (by decide) ?_
      exact sr_iretZ dX5_isTaken_89 rfl (Or.inl rfl) rfl
    · refine sr_iload (pc' := 17) dX5_isTaken_15 rfl rfl ?_
      refine sr_iload_n (i := 1) (pc' := 18) dX5_isTaken_17 rfl rfl rfl ?_
      refine sr_icmp_eq (pc' := 21) (tgt := 47) dX5_isTaken_18 rfl rfl (fun c18 => ?_) (fun c18 => ?_)
      · refine sr_iconst (pc' := 48) dX5_isTaken_47 rfl (by decide) ?_
        exact run_isTaken_48_s μ ih x1 x2 x3 x4 0
      · refine sr_aload_n (i := 0) (pc' := 22) dX5_isTaken_21 rfl rfl rfl ?_
        refine sr_iload (pc' := 24) dX5_isTaken_22 rfl rfl ?_
        refine sr_callV1_I (pc' := 27) (run_isDone_sp x4 μ) dX5_isTaken_24 rfl mg_X5_isDone mi_X5_isDone (Or.inl ⟨5, _, TX5, 13, s88_35, rfl⟩) ⟨Nat.le_of_ble_eq_true rfl, Nat.le_of_ble_eq_true rfl⟩ w_87 (Nat.le_of_ble_eq_true rfl) (fun u1 hu1 hcu1 hzu1 => ?_)
        refine sr_if_ne (pc' := 30) (tgt := 47) dX5_isTaken_27 rfl rfl (fun c27 => ?_) (fun c27 => ?_)
        · refine sr_aload_n (i := 0) (pc' := 31) dX5_isTaken_30 rfl rfl rfl ?_
          refine sr_getR (k := 2) (b := 38) (pc' := 34) cls_X5 dX5_isTaken_31 rfl s88_35 rfl (by decide) w_81 ?_
          refine sr_iload (pc' := 36) dX5_isTaken_34 rfl rfl ?_
          refine sr_callSN2_I (pc' := 39) (ww_at_sp s88_38 (by decide) x4 μ) dX5_isTaken_36 rfl mg_X8_at ms_X8_at ⟨Nat.le_of_ble_eq_true rfl, Nat.le_of_ble_eq_true rfl⟩ w_85 (Nat.le_of_ble_eq_true rfl) (fun u2 hu2 hcu2 hzu2 => ?_)
          refine sr_iload_n (i := 2) (pc' := 40) dX5_isTaken_39 rfl rfl rfl ?_
          refine sr_icmp_ne (pc' := 43) (tgt := 47) dX5_isTaken_40 rfl rfl (fun c40 => ?_) (fun c40 => ?_)
          · refine sr_iconst (pc' := 44) dX5_isTaken_43 rfl (by decide) ?_
            refine sr_goto (pc' := 48) dX5_isTaken_44 rfl ?_
            exact run_isTaken_48_s μ ih x1 x2 x3 x4 1
          · refine sr_iconst (pc' := 48) dX5_isTaken_47 rfl (by decide) ?_
            exact run_isTaken_48_s μ ih x1 x2 x3 x4 0
        · refine sr_iconst (pc' := 48) dX5_isTaken_47 rfl (by decide) ?_
          exact run_isTaken_48_s μ ih x1 x2 x3 x4 0
def run_isTaken (μ : Mem)  (x1 x2 x3 : Int) : Option (Int) := run_isTaken_3 μ BIG x1 x2 x3 0
theorem run_isTaken_sp {l : Launch} {G : Nv}   (x1 x2 x3 : Int) (μ : Mem) : SP l G S88 mX5_isTaken [vR 35, vI x1, vI x2, vI x3] μ (run_isTaken μ x1 x2 x3) (jI μ) := by
  refine sp_go (lv := [some (vR 35), some (vI x1), some (vI x2), some (vI x3), none, none]) pn_X5 (Nat.le_of_ble_eq_true rfl) rfl ?_
  unfold run_isTaken
  refine sr_iconst (pc' := 1) dX5_isTaken_0 rfl (by decide) ?_
  refine sr_istore (lv' := [some (vR 35), some (vI x1), some (vI x2), some (vI x3), some (vI 0), none]) (pc' := 3) dX5_isTaken_1 rfl (by decide) rfl ?_
  exact run_isTaken_3_s μ BIG x1 x2 x3 0
def roa_tollOf (r : Nat) (μ : Mem)  (x1 x2 x3 : Int) : Option (Int) := (roa_part r μ x1 0).bind fun u1 => if u1 = 4 then (some 0) else ((ww_rut μ x2 x3).bind fun u2 => (ww_at (r + 3) 63 μ u2).bind fun u3 => some u3)
theorem roa_tollOf_sp {l : Launch} {G : Nv} {Sh : Shp} {r : Nat} (hr : IsRoad Sh r) (x1 x2 x3 : Int) (μ : Mem) : SP l G Sh mX4_tollOf [vR r, vI x1, vI x2, vI x3] μ (roa_tollOf r μ x1 x2 x3) (jI μ) := by
  refine sp_go (lv := [some (vR r), some (vI x1), some (vI x2), some (vI x3)]) pn_X4 (Nat.le_of_ble_eq_true rfl) rfl ?_
  unfold roa_tollOf
  refine sr_aload_n (i := 0) (pc' := 1) dX4_tollOf_0 rfl rfl rfl ?_
  refine sr_iload_n (i := 1) (pc' := 2) dX4_tollOf_1 rfl rfl rfl ?_
  refine sr_iconst (pc' := 3) dX4_tollOf_2 rfl (by decide) ?_
  refine sr_callV2_I (pc' := 6) (roa_part_sp hr x1 0 μ) dX4_tollOf_3 rfl mg_X4_part mi_X4_part (Or.inl ⟨4, _, TX4, 12, hr.1, rfl⟩) ⟨Nat.le_of_ble_eq_true rfl, Nat.le_of_ble_eq_true rfl⟩ w_32 (Nat.le_of_ble_eq_true rfl) (fun u1 hu1 hcu1 hzu1 => ?_)
  refine sr_iconst (pc' := 7) dX4_tollOf_6 rfl (by decide) ?_
  refine sr_icmp_ne (pc' := 10) (tgt := 14) dX4_tollOf_7 rfl rfl (fun c7 => ?_) (fun c7 => ?_)
  · refine sr_iconst (pc' := 11) dX4_tollOf_10 rfl (by decide) ?_
    refine sr_goto (pc' := 26) dX4_tollOf_11 rfl ?_
    exact sr_iretI dX4_tollOf_26 rfl rfl
  · refine sr_aload_n (i := 0) (pc' := 15) dX4_tollOf_14 rfl rfl rfl ?_
    refine sr_getR (k := 2) (b := (r + 3)) (pc' := 18) cls_X4 dX4_tollOf_15 rfl hr.1 rfl (by decide) w_5 ?_
    refine sr_iload_n (i := 2) (pc' := 19) dX4_tollOf_18 rfl rfl rfl ?_
    refine sr_iload_n (i := 3) (pc' := 20) dX4_tollOf_19 rfl rfl rfl ?_
    refine sr_callSN2_I (pc' := 23) (ww_rut_sp x2 x3 μ) dX4_tollOf_20 rfl mg_X8_rut ms_X8_rut ⟨Nat.le_of_ble_eq_true rfl, Nat.le_of_ble_eq_true rfl⟩ w_88 (Nat.le_of_ble_eq_true rfl) (fun u2 hu2 hcu2 hzu2 => ?_)
    refine sr_callSN2_I (pc' := 26) (ww_at_sp hr.2.2.2.1 (by decide) u2 μ) dX4_tollOf_23 rfl mg_X8_at ms_X8_at ⟨Nat.le_of_ble_eq_true rfl, Nat.le_of_ble_eq_true rfl⟩ w_89 (Nat.le_of_ble_eq_true rfl) (fun u3 hu3 hcu3 hzu3 => ?_)
    exact sr_iretI dX4_tollOf_26 rfl rfl
def run_setDepth   (x1 x2 : Int) (μ : Mem) : Option (Mem) := (ww_put 42 63 x1 x2 μ).bind fun μ1 => (ww_put 43 63 x1 (μ1 35 8) μ1).bind fun μ2 => some μ2
theorem run_setDepth_sp {l : Launch} {G : Nv}   (x1 x2 : Int) (μ : Mem) : SP l G S88 mX5_setDepth [vR 35, vI x1, vI x2] μ (run_setDepth x1 x2 μ) jM := by
  refine sp_go (lv := [some (vR 35), some (vI x1), some (vI x2)]) pn_X5 (Nat.le_of_ble_eq_true rfl) rfl ?_
  unfold run_setDepth
  refine sr_aload_n (i := 0) (pc' := 1) dX5_setDepth_0 rfl rfl rfl ?_
  refine sr_getR (k := 6) (b := 42) (pc' := 4) cls_X5 dX5_setDepth_1 rfl s88_35 rfl (by decide) w_75 ?_
  refine sr_iload_n (i := 1) (pc' := 5) dX5_setDepth_4 rfl rfl rfl ?_
  refine sr_iload_n (i := 2) (pc' := 6) dX5_setDepth_5 rfl rfl rfl ?_
  refine sr_callSN3_M (pc' := 9) (ww_put_sp s88_42 (by decide) x1 x2 μ) dX5_setDepth_6 rfl mg_X8_put ms_X8_put ⟨Nat.le_of_ble_eq_true rfl, Nat.le_of_ble_eq_true rfl⟩ w_82 (Nat.le_of_ble_eq_true rfl) (fun μ1 hμ1 => ?_)
  refine sr_aload_n (i := 0) (pc' := 10) dX5_setDepth_9 rfl rfl rfl ?_
  refine sr_getR (k := 7) (b := 43) (pc' := 13) cls_X5 dX5_setDepth_10 rfl s88_35 rfl (by decide) w_77 ?_
  refine sr_iload_n (i := 1) (pc' := 14) dX5_setDepth_13 rfl rfl rfl ?_
  refine sr_aload_n (i := 0) (pc' := 15) dX5_setDepth_14 rfl rfl rfl ?_
  refine sr_getI (k := 8) (pc' := 18) cls_X5 dX5_setDepth_15 rfl s88_35 rfl (by decide) w_78 ?_
  refine sr_callSN3_M (pc' := 21) (ww_put_sp s88_43 (by decide) x1 (μ1 35 8) μ1) dX5_setDepth_18 rfl mg_X8_put ms_X8_put ⟨Nat.le_of_ble_eq_true rfl, Nat.le_of_ble_eq_true rfl⟩ w_82 (Nat.le_of_ble_eq_true rfl) (fun μ2 hμ2 => ?_)
  exact sr_ret dX5_setDepth_21 rfl rfl
def run_enter_93   (x2 x3 s0 : Int) (μ : Mem) : Option (Mem) := (ww_rut μ x2 x3).bind fun u1 => (ww_rut μ x2 x3).bind fun u2 => (run_depthOf μ u2).bind fun u3 => (run_setDepth u1 (iMin 99 (wI (u3 + s0))) μ).bind fun μ4 => some μ4
theorem run_enter_93_s {l : Launch} {G : Nv}     : ∀ (x2 x3 s0 : Int) (μ : Mem), SR l G S88 mX5_enter (run_enter_93 x2 x3 s0 μ) jM 93 [some (vR 35), none, some (vI x2), some (vI x3), none, none] [vI s0] μ := by
  intro x2 x3 s0 μ
  unfold run_enter_93
  refine sr_istore (lv' := [some (vR 35), none, some (vI x2), some (vI x3), none, some (vI s0)]) (pc' := 95) dX5_enter_93 rfl (by decide) rfl ?_
  refine sr_aload_n (i := 0) (pc' := 96) dX5_enter_95 rfl rfl rfl ?_
  refine sr_iload_n (i := 2) (pc' := 97) dX5_enter_96 rfl rfl rfl ?_
  refine sr_iload_n (i := 3) (pc' := 98) dX5_enter_97 rfl rfl rfl ?_
  refine sr_callSN2_I (pc' := 101) (ww_rut_sp x2 x3 μ) dX5_enter_98 rfl mg_X8_rut ms_X8_rut ⟨Nat.le_of_ble_eq_true rfl, Nat.le_of_ble_eq_true rfl⟩ w_90 (Nat.le_of_ble_eq_true rfl) (fun u1 hu1 hcu1 hzu1 => ?_)
  refine sr_bipush (pc' := 103) dX5_enter_101 rfl (by decide) (by decide) ?_
  refine sr_aload_n (i := 0) (pc' := 104) dX5_enter_103 rfl rfl rfl ?_
  refine sr_iload_n (i := 2) (pc' := 105) dX5_enter_104 rfl rfl rfl ?_
  refine sr_iload_n (i := 3) (pc' := 106) dX5_enter_105 rfl rfl rfl ?_
  refine sr_callSN2_I (pc' := 109) (ww_rut_sp x2 x3 μ) dX5_enter_106 rfl mg_X8_rut ms_X8_rut ⟨Nat.le_of_ble_eq_true rfl, Nat.le_of_ble_eq_true rfl⟩ w_90 (Nat.le_of_ble_eq_true rfl) (fun u2 hu2 hcu2 hzu2 => ?_)
  refine sr_callV1_I (pc' := 112) (run_depthOf_sp u2 μ) dX5_enter_109 rfl mg_X5_depthOf mi_X5_depthOf (Or.inl ⟨5, _, TX5, 13, s88_35, rfl⟩) ⟨Nat.le_of_ble_eq_true rfl, Nat.le_of_ble_eq_true rfl⟩ w_91 (Nat.le_of_ble_eq_true rfl) (fun u3 hu3 hcu3 hzu3 => ?_)
  refine sr_iload (pc' := 114) dX5_enter_112 rfl rfl ?_
  refine sr_iadd (pc' := 115) dX5_enter_114 rfl ?_
  refine sr_mmin (pc' := 118) dX5_enter_115 rfl w_92 (Nat.le_of_ble_eq_true rfl) (Nat.le_of_ble_eq_true rfl) (Nat.le_of_ble_eq_true rfl) ?_
  refine sr_callV2_M (pc' := 121) (run_setDepth_sp u1 (iMin 99 (wI (u3 + s0))) μ) dX5_enter_118 rfl mg_X5_setDepth mi_X5_setDepth (Or.inl ⟨5, _, TX5, 13, s88_35, rfl⟩) ⟨Nat.le_of_ble_eq_true rfl, Nat.le_of_ble_eq_true rfl⟩ w_93 (Nat.le_of_ble_eq_true rfl) (fun μ4 hμ4 => ?_)
  exact sr_ret dX5_enter_121 rfl rfl
def run_enter   (x1 x2 x3 : Int) (μ : Mem) : Option (Mem) := bnd (mset μ 35 10 (wI ((μ 35 10) + 1))) fun μ1 => (ww_put 38 5 x1 x2 μ1).bind fun μ2 => (ww_at 39 5 μ2 x1).bind fun u3 => (roa_tollOf 1 μ2 x1 x2 x3).bind fun u4 => (ww_put 39 5 x1 (wI (u3 + u4)) μ2).bind fun μ5 => (roa_part 1 μ5 x1 0).bind fun u6 => if u6 = 2 then (some μ5) else (if u6 = 1 then ((roa_part 1 μ5 x1 2).bind fun u7 => run_enter_93 x2 x3 (wI (2 * u7)) μ5) else ((roa_part 1 μ5 x1 2).bind fun u8 => run_enter_93 x2 x3 u8 μ5))
theorem run_enter_sp {l : Launch} {G : Nv}   (x1 x2 x3 : Int) (μ : Mem) : SP l G S88 mX5_enter [vR 35, vI x1, vI x2, vI x3] μ (run_enter x1 x2 x3 μ) jM := by
  refine sp_go (lv := [some (vR 35), some (vI x1), some (vI x2), some (vI x3), none, none]) pn_X5 (Nat.le_of_ble_eq_true rfl) rfl ?_
  unfold run_enter
  refine sr_aload_n (i := 0) (pc' := 1) dX5_enter_0 rfl rfl rfl ?_
  refine sr_dup (pc' := 2) dX5_enter_1 rfl rfl ?_
  refine sr_getI (k := 10) (pc' := 5) cls_X5 dX5_enter_2 rfl s88_35 rfl (by decide) w_80 ?_
  refine sr_iconst (pc' := 6) dX5_enter_5 rfl (by decide) ?_
  refine sr_iadd (pc' := 7) dX5_enter_6 rfl ?_
  refine sr_putI (k := 10) (pc' := 10) cls_X5 dX5_enter_7 rfl s88_35 rfl (by decide) w_80 rfl rfl (fun μ1 hμ1 => ?_)
  refine sr_aload_n (i := 0) (pc' := 11) dX5_enter_10 rfl rfl rfl ?_
  refine sr_getR (k := 2) (b := 38) (pc' := 14) cls_X5 dX5_enter_11 rfl s88_35 rfl (by decide) w_81 ?_
  refine sr_iload_n (i := 1) (pc' := 15) dX5_enter_14 rfl rfl rfl ?_
  refine sr_iload_n (i := 2) (pc' := 16) dX5_enter_15 rfl rfl rfl ?_
  refine sr_callSN3_M (pc' := 19) (ww_put_sp s88_38 (by decide) x1 x2 μ1) dX5_enter_16 rfl mg_X8_put ms_X8_put ⟨Nat.le_of_ble_eq_true rfl, Nat.le_of_ble_eq_true rfl⟩ w_82 (Nat.le_of_ble_eq_true rfl) (fun μ2 hμ2 => ?_)
  refine sr_aload_n (i := 0) (pc' := 20) dX5_enter_19 rfl rfl rfl ?_
  refine sr_getR (k := 3) (b := 39) (pc' := 23) cls_X5 dX5_enter_20 rfl s88_35 rfl (by decide) w_70 ?_
  refine sr_iload_n (i := 1) (pc' := 24) dX5_enter_23 rfl rfl rfl ?_
  refine sr_aload_n (i := 0) (pc' := 25) dX5_enter_24 rfl rfl rfl ?_
  refine sr_getR (k := 3) (b := 39) (pc' := 28) cls_X5 dX5_enter_25 rfl s88_35 rfl (by decide) w_70 ?_
  refine sr_iload_n (i := 1) (pc' := 29) dX5_enter_28 rfl rfl rfl ?_
  refine sr_callSN2_I (pc' := 32) (ww_at_sp s88_39 (by decide) x1 μ2) dX5_enter_29 rfl mg_X8_at ms_X8_at ⟨Nat.le_of_ble_eq_true rfl, Nat.le_of_ble_eq_true rfl⟩ w_85 (Nat.le_of_ble_eq_true rfl) (fun u3 hu3 hcu3 hzu3 => ?_)
  refine sr_aload_n (i := 0) (pc' := 33) dX5_enter_32 rfl rfl rfl ?_
  refine sr_getR (k := 0) (b := 1) (pc' := 36) cls_X5 dX5_enter_33 rfl s88_35 rfl (by decide) w_64 ?_
  refine sr_iload_n (i := 1) (pc' := 37) dX5_enter_36 rfl rfl rfl ?_
  refine sr_iload_n (i := 2) (pc' := 38) dX5_enter_37 rfl rfl rfl ?_
  refine sr_iload_n (i := 3) (pc' := 39) dX5_enter_38 rfl rfl rfl ?_
  refine sr_callVN3_I (pc' := 42) (roa_tollOf_sp isRoad_1 x1 x2 x3 μ2) dX5_enter_39 rfl mg_X4_tollOf mi_X4_tollOf (Or.inl ⟨4, _, TX4, 12, isRoad_1.1, rfl⟩) ⟨Nat.le_of_ble_eq_true rfl, Nat.le_of_ble_eq_true rfl⟩ w_94 (Nat.le_of_ble_eq_true rfl) (fun u4 hu4 hcu4 hzu4 => ?_)
  refine sr_iadd (pc' := 43) dX5_enter_42 rfl ?_
  refine sr_callSN3_M (pc' := 46) (ww_put_sp s88_39 (by decide) x1 (wI (u3 + u4)) μ2) dX5_enter_43 rfl mg_X8_put ms_X8_put ⟨Nat.le_of_ble_eq_true rfl, Nat.le_of_ble_eq_true rfl⟩ w_82 (Nat.le_of_ble_eq_true rfl) (fun μ5 hμ5 => ?_)
  refine sr_aload_n (i := 0) (pc' := 47) dX5_enter_46 rfl rfl rfl ?_
  refine sr_getR (k := 0) (b := 1) (pc' := 50) cls_X5 dX5_enter_47 rfl s88_35 rfl (by decide) w_64 ?_
  refine sr_iload_n (i := 1) (pc' := 51) dX5_enter_50 rfl rfl rfl ?_
  refine sr_iconst (pc' := 52) dX5_enter_51 rfl (by decide) ?_
  refine sr_callVN2_I (pc' := 55) (roa_part_sp isRoad_1 x1 0 μ5) dX5_enter_52 rfl mg_X4_part mi_X4_part (Or.inl ⟨4, _, TX4, 12, isRoad_1.1, rfl⟩) ⟨Nat.le_of_ble_eq_true rfl, Nat.le_of_ble_eq_true rfl⟩ w_68 (Nat.le_of_ble_eq_true rfl) (fun u6 hu6 hcu6 hzu6 => ?_)
  refine sr_istore (lv' := [some (vR 35), some (vI x1), some (vI x2), some (vI x3), some (vI u6), none]) (pc' := 57) dX5_enter_55 rfl (by decide) rfl ?_
  refine sr_iload (pc' := 59) dX5_enter_57 rfl rfl ?_
  refine sr_iconst (pc' := 60) dX5_enter_59 rfl (by decide) ?_
  refine sr_icmp_ne (pc' := 63) (tgt := 64) dX5_enter_60 rfl rfl (fun c60 => ?_) (fun c60 => ?_)
  · exact sr_ret dX5_enter_63 rfl rfl
  · refine sr_iload (pc' := 66) dX5_enter_64 rfl rfl ?_
    refine sr_iconst (pc' := 67) dX5_enter_66 rfl (by decide) ?_
    refine sr_icmp_ne (pc' := 70) (tgt := 84) dX5_enter_67 rfl rfl (fun c67 => ?_) (fun c67 => ?_)
    · refine sr_iconst (pc' := 71) dX5_enter_70 rfl (by decide) ?_
      refine sr_aload_n (i := 0) (pc' := 72) dX5_enter_71 rfl rfl rfl ?_
      refine sr_getR (k := 0) (b := 1) (pc' := 75) cls_X5 dX5_enter_72 rfl s88_35 rfl (by decide) w_64 ?_
      refine sr_iload_n (i := 1) (pc' := 76) dX5_enter_75 rfl rfl rfl ?_
      refine sr_iconst (pc' := 77) dX5_enter_76 rfl (by decide) ?_
      refine sr_callVN2_I (pc' := 80) (roa_part_sp isRoad_1 x1 2 μ5) dX5_enter_77 rfl mg_X4_part mi_X4_part (Or.inl ⟨4, _, TX4, 12, isRoad_1.1, rfl⟩) ⟨Nat.le_of_ble_eq_true rfl, Nat.le_of_ble_eq_true rfl⟩ w_68 (Nat.le_of_ble_eq_true rfl) (fun u7 hu7 hcu7 hzu7 => ?_)
      refine sr_imul (pc' := 81) dX5_enter_80 rfl ?_
      refine sr_goto (pc' := 93) dX5_enter_81 rfl ?_
      refine sr_fgt (fgt_s (fgt_n (fgt_s (fgt_s (fgt_n (fgt_s fgt_nil)))))) ?_
      exact run_enter_93_s x2 x3 (wI (2 * u7)) μ5
    · refine sr_aload_n (i := 0) (pc' := 85) dX5_enter_84 rfl rfl rfl ?_
      refine sr_getR (k := 0) (b := 1) (pc' := 88) cls_X5 dX5_enter_85 rfl s88_35 rfl (by decide) w_64 ?_
      refine sr_iload_n (i := 1) (pc' := 89) dX5_enter_88 rfl rfl rfl ?_
      refine sr_iconst (pc' := 90) dX5_enter_89 rfl (by decide) ?_
      refine sr_callVN2_I (pc' := 93) (roa_part_sp isRoad_1 x1 2 μ5) dX5_enter_90 rfl mg_X4_part mi_X4_part (Or.inl ⟨4, _, TX4, 12, isRoad_1.1, rfl⟩) ⟨Nat.le_of_ble_eq_true rfl, Nat.le_of_ble_eq_true rfl⟩ w_68 (Nat.le_of_ble_eq_true rfl) (fun u8 hu8 hcu8 hzu8 => ?_)
      refine sr_fgt (fgt_s (fgt_n (fgt_s (fgt_s (fgt_n (fgt_s fgt_nil)))))) ?_
      exact run_enter_93_s x2 x3 u8 μ5
def run_moveIn_164   (x2 : Int) (μ : Mem) : Option (Mem) := (ww_at 40 5 μ x2).bind fun u1 => (ww_put 40 5 x2 (wI (u1 + 1)) μ).bind fun μ2 => bnd (mset μ2 35 12 (iOr (μ2 35 12) (iShl 1 x2))) fun μ3 => some μ3
theorem run_moveIn_164_s {l : Launch} {G : Nv}     : ∀ (x2 : Int) (μ : Mem), SR l G S88 mX5_moveIn (run_moveIn_164 x2 μ) jM 164 [some (vR 35), none, some (vI x2), none, none, none] [] μ := by
  intro x2 μ
  unfold run_moveIn_164
  refine sr_aload_n (i := 0) (pc' := 165) dX5_moveIn_164 rfl rfl rfl ?_
  refine sr_getR (k := 4) (b := 40) (pc' := 168) cls_X5 dX5_moveIn_165 rfl s88_35 rfl (by decide) w_72 ?_
  refine sr_iload_n (i := 2) (pc' := 169) dX5_moveIn_168 rfl rfl rfl ?_
  refine sr_aload_n (i := 0) (pc' := 170) dX5_moveIn_169 rfl rfl rfl ?_
  refine sr_getR (k := 4) (b := 40) (pc' := 173) cls_X5 dX5_moveIn_170 rfl s88_35 rfl (by decide) w_72 ?_
  refine sr_iload_n (i := 2) (pc' := 174) dX5_moveIn_173 rfl rfl rfl ?_
  refine sr_callSN2_I (pc' := 177) (ww_at_sp s88_40 (by decide) x2 μ) dX5_moveIn_174 rfl mg_X8_at ms_X8_at ⟨Nat.le_of_ble_eq_true rfl, Nat.le_of_ble_eq_true rfl⟩ w_85 (Nat.le_of_ble_eq_true rfl) (fun u1 hu1 hcu1 hzu1 => ?_)
  refine sr_iconst (pc' := 178) dX5_moveIn_177 rfl (by decide) ?_
  refine sr_iadd (pc' := 179) dX5_moveIn_178 rfl ?_
  refine sr_callSN3_M (pc' := 182) (ww_put_sp s88_40 (by decide) x2 (wI (u1 + 1)) μ) dX5_moveIn_179 rfl mg_X8_put ms_X8_put ⟨Nat.le_of_ble_eq_true rfl, Nat.le_of_ble_eq_true rfl⟩ w_82 (Nat.le_of_ble_eq_true rfl) (fun μ2 hμ2 => ?_)
  refine sr_aload_n (i := 0) (pc' := 183) dX5_moveIn_182 rfl rfl rfl ?_
  refine sr_dup (pc' := 184) dX5_moveIn_183 rfl rfl ?_
  refine sr_getI (k := 12) (pc' := 187) cls_X5 dX5_moveIn_184 rfl s88_35 rfl (by decide) w_66 ?_
  refine sr_iconst (pc' := 188) dX5_moveIn_187 rfl (by decide) ?_
  refine sr_iload_n (i := 2) (pc' := 189) dX5_moveIn_188 rfl rfl rfl ?_
  refine sr_ishl (pc' := 190) dX5_moveIn_189 rfl ?_
  refine sr_ior (pc' := 191) dX5_moveIn_190 rfl ?_
  refine sr_putI (k := 12) (pc' := 194) cls_X5 dX5_moveIn_191 rfl s88_35 rfl (by decide) w_66 rfl rfl (fun μ3 hμ3 => ?_)
  exact sr_ret dX5_moveIn_194 rfl rfl
def run_moveIn_52   (x1 x2 : Int) (μ : Mem) : Option (Mem) := (ww_at 38 5 μ x2).bind fun u1 => (roa_nextYard 1 μ x2 u1).bind fun u2 => (roa_part 1 μ x2 1).bind fun u3 => (ww_rut μ u2 u3).bind fun u4 => (run_depthOf μ u4).bind fun u5 => (roa_isOpen 1 μ x2 u2 u3 u5).bind fun u6 => if u6 = 0 then (run_moveIn_164 x2 μ) else ((run_isTaken μ x2 u2 u3).bind fun u7 => if u7 = 0 then ((run_enter x2 u2 u3 μ).bind fun μ8 => (roa_part 1 μ8 x2 5).bind fun u9 => if u2 = u9 then ((ww_put 41 5 x2 x1 μ8).bind fun μ10 => bnd (mset μ10 35 9 (wI ((μ10 35 9) - 1))) fun μ11 => some μ11) else (some μ8)) else (run_moveIn_164 x2 μ))
theorem run_moveIn_52_s {l : Launch} {G : Nv}     : ∀ (x1 x2 : Int) (μ : Mem), SR l G S88 mX5_moveIn (run_moveIn_52 x1 x2 μ) jM 52 [some (vR 35), some (vI x1), some (vI x2), none, none, none] [] μ := by
  intro x1 x2 μ
  unfold run_moveIn_52
  refine sr_aload_n (i := 0) (pc' := 53) dX5_moveIn_52 rfl rfl rfl ?_
  refine sr_getR (k := 0) (b := 1) (pc' := 56) cls_X5 dX5_moveIn_53 rfl s88_35 rfl (by decide) w_64 ?_
  refine sr_iload_n (i := 2) (pc' := 57) dX5_moveIn_56 rfl rfl rfl ?_
  refine sr_aload_n (i := 0) (pc' := 58) dX5_moveIn_57 rfl rfl rfl ?_
  refine sr_getR (k := 2) (b := 38) (pc' := 61) cls_X5 dX5_moveIn_58 rfl s88_35 rfl (by decide) w_81 ?_
  refine sr_iload_n (i := 2) (pc' := 62) dX5_moveIn_61 rfl rfl rfl ?_
  refine sr_callSN2_I (pc' := 65) (ww_at_sp s88_38 (by decide) x2 μ) dX5_moveIn_62 rfl mg_X8_at ms_X8_at ⟨Nat.le_of_ble_eq_true rfl, Nat.le_of_ble_eq_true rfl⟩ w_85 (Nat.le_of_ble_eq_true rfl) (fun u1 hu1 hcu1 hzu1 => ?_)
  refine sr_callVN2_I (pc' := 68) (roa_nextYard_sp isRoad_1 x2 u1 μ) dX5_moveIn_65 rfl mg_X4_nextYard mi_X4_nextYard (Or.inl ⟨4, _, TX4, 12, isRoad_1.1, rfl⟩) ⟨Nat.le_of_ble_eq_true rfl, Nat.le_of_ble_eq_true rfl⟩ w_95 (Nat.le_of_ble_eq_true rfl) (fun u2 hu2 hcu2 hzu2 => ?_)
  refine sr_istore (lv' := [some (vR 35), some (vI x1), some (vI x2), none, some (vI u2), none]) (pc' := 70) dX5_moveIn_68 rfl (by decide) rfl ?_
  refine sr_aload_n (i := 0) (pc' := 71) dX5_moveIn_70 rfl rfl rfl ?_
  refine sr_getR (k := 0) (b := 1) (pc' := 74) cls_X5 dX5_moveIn_71 rfl s88_35 rfl (by decide) w_64 ?_
  refine sr_iload_n (i := 2) (pc' := 75) dX5_moveIn_74 rfl rfl rfl ?_
  refine sr_iconst (pc' := 76) dX5_moveIn_75 rfl (by decide) ?_
  refine sr_callVN2_I (pc' := 79) (roa_part_sp isRoad_1 x2 1 μ) dX5_moveIn_76 rfl mg_X4_part mi_X4_part (Or.inl ⟨4, _, TX4, 12, isRoad_1.1, rfl⟩) ⟨Nat.le_of_ble_eq_true rfl, Nat.le_of_ble_eq_true rfl⟩ w_68 (Nat.le_of_ble_eq_true rfl) (fun u3 hu3 hcu3 hzu3 => ?_)
  refine sr_istore (lv' := [some (vR 35), some (vI x1), some (vI x2), none, some (vI u2), some (vI u3)]) (pc' := 81) dX5_moveIn_79 rfl (by decide) rfl ?_
  refine sr_aload_n (i := 0) (pc' := 82) dX5_moveIn_81 rfl rfl rfl ?_
  refine sr_getR (k := 0) (b := 1) (pc' := 85) cls_X5 dX5_moveIn_82 rfl s88_35 rfl (by decide) w_64 ?_
  refine sr_iload_n (i := 2) (pc' := 86) dX5_moveIn_85 rfl rfl rfl ?_
  refine sr_iload (pc' := 88) dX5_moveIn_86 rfl rfl ?_
  refine sr_iload (pc' := 90) dX5_moveIn_88 rfl rfl ?_
  refine sr_aload_n (i := 0) (pc' := 91) dX5_moveIn_90 rfl rfl rfl ?_
  refine sr_iload (pc' := 93) dX5_moveIn_91 rfl rfl ?_
  refine sr_iload (pc' := 95) dX5_moveIn_93 rfl rfl ?_
  refine sr_callSN2_I (pc' := 98) (ww_rut_sp u2 u3 μ) dX5_moveIn_95 rfl mg_X8_rut ms_X8_rut ⟨Nat.le_of_ble_eq_true rfl, Nat.le_of_ble_eq_true rfl⟩ w_90 (Nat.le_of_ble_eq_true rfl) (fun u4 hu4 hcu4 hzu4 => ?_)
  refine sr_callV1_I (pc' := 101) (run_depthOf_sp u4 μ) dX5_moveIn_98 rfl mg_X5_depthOf mi_X5_depthOf (Or.inl ⟨5, _, TX5, 13, s88_35, rfl⟩) ⟨Nat.le_of_ble_eq_true rfl, Nat.le_of_ble_eq_true rfl⟩ w_91 (Nat.le_of_ble_eq_true rfl) (fun u5 hu5 hcu5 hzu5 => ?_)
  refine sr_callVN4_I (pc' := 104) (roa_isOpen_sp isRoad_1 x2 u2 u3 u5 μ) dX5_moveIn_101 rfl mg_X4_isOpen mi_X4_isOpen (Or.inl ⟨4, _, TX4, 12, isRoad_1.1, rfl⟩) ⟨Nat.le_of_ble_eq_true rfl, Nat.le_of_ble_eq_true rfl⟩ w_96 (Nat.le_of_ble_eq_true rfl) (fun u6 hu6 hcu6 hzu6 => ?_)
  refine sr_if_eq (pc' := 107) (tgt := 164) dX5_moveIn_104 rfl rfl (fun c104 => ?_) (fun c104 => ?_)
  · refine sr_fgt (fgt_s (fgt_n (fgt_s (fgt_s (fgt_n (fgt_n fgt_nil)))))) ?_
    exact run_moveIn_164_s x2 μ
  · refine sr_aload_n (i := 0) (pc' := 108) dX5_moveIn_107 rfl rfl rfl ?_
    refine sr_iload_n (i := 2) (pc' := 109) dX5_moveIn_108 rfl rfl rfl ?_
    refine sr_iload (pc' := 111) dX5_moveIn_109 rfl rfl ?_
    refine sr_iload (pc' := 113) dX5_moveIn_111 rfl rfl ?_
    refine sr_callV3_I (pc' := 116) (run_isTaken_sp x2 u2 u3 μ) dX5_moveIn_113 rfl mg_X5_isTaken mi_X5_isTaken (Or.inl ⟨5, _, TX5, 13, s88_35, rfl⟩) ⟨Nat.le_of_ble_eq_true rfl, Nat.le_of_ble_eq_true rfl⟩ w_97 (Nat.le_of_ble_eq_true rfl) (fun u7 hu7 hcu7 hzu7 => ?_)
    refine sr_if_ne (pc' := 119) (tgt := 164) dX5_moveIn_116 rfl rfl (fun c116 => ?_) (fun c116 => ?_)
    · refine sr_aload_n (i := 0) (pc' := 120) dX5_moveIn_119 rfl rfl rfl ?_
      refine sr_iload_n (i := 2) (pc' := 121) dX5_moveIn_120 rfl rfl rfl ?_
      refine sr_iload (pc' := 123) dX5_moveIn_121 rfl rfl ?_
      refine sr_iload (pc' := 125) dX5_moveIn_123 rfl rfl ?_
      refine sr_callV3_M (pc' := 128) (run_enter_sp x2 u2 u3 μ) dX5_moveIn_125 rfl mg_X5_enter mi_X5_enter (Or.inl ⟨5, _, TX5, 13, s88_35, rfl⟩) ⟨Nat.le_of_ble_eq_true rfl, Nat.le_of_ble_eq_true rfl⟩ w_98 (Nat.le_of_ble_eq_true rfl) (fun μ8 hμ8 => ?_)
      refine sr_iload (pc' := 130) dX5_moveIn_128 rfl rfl ?_
      refine sr_aload_n (i := 0) (pc' := 131) dX5_moveIn_130 rfl rfl rfl ?_
      refine sr_getR (k := 0) (b := 1) (pc' := 134) cls_X5 dX5_moveIn_131 rfl s88_35 rfl (by decide) w_64 ?_
      refine sr_iload_n (i := 2) (pc' := 135) dX5_moveIn_134 rfl rfl rfl ?_
      refine sr_iconst (pc' := 136) dX5_moveIn_135 rfl (by decide) ?_
      refine sr_callVN2_I (pc' := 139) (roa_part_sp isRoad_1 x2 5 μ8) dX5_moveIn_136 rfl mg_X4_part mi_X4_part (Or.inl ⟨4, _, TX4, 12, isRoad_1.1, rfl⟩) ⟨Nat.le_of_ble_eq_true rfl, Nat.le_of_ble_eq_true rfl⟩ w_68 (Nat.le_of_ble_eq_true rfl) (fun u9 hu9 hcu9 hzu9 => ?_)
      refine sr_icmp_ne (pc' := 142) (tgt := 194) dX5_moveIn_139 rfl rfl (fun c139 => ?_) (fun c139 => ?_)
      · refine sr_aload_n (i := 0) (pc' := 143) dX5_moveIn_142 rfl rfl rfl ?_
        refine sr_getR (k := 5) (b := 41) (pc' := 146) cls_X5 dX5_moveIn_143 rfl s88_35 rfl (by decide) w_73 ?_
        refine sr_iload_n (i := 2) (pc' := 147) dX5_moveIn_146 rfl rfl rfl ?_
        refine sr_iload_n (i := 1) (pc' := 148) dX5_moveIn_147 rfl rfl rfl ?_
        refine sr_callSN3_M (pc' := 151) (ww_put_sp s88_41 (by decide) x2 x1 μ8) dX5_moveIn_148 rfl mg_X8_put ms_X8_put ⟨Nat.le_of_ble_eq_true rfl, Nat.le_of_ble_eq_true rfl⟩ w_82 (Nat.le_of_ble_eq_true rfl) (fun μ10 hμ10 => ?_)
        refine sr_aload_n (i := 0) (pc' := 152) dX5_moveIn_151 rfl rfl rfl ?_
        refine sr_dup (pc' := 153) dX5_moveIn_152 rfl rfl ?_
        refine sr_getI (k := 9) (pc' := 156) cls_X5 dX5_moveIn_153 rfl s88_35 rfl (by decide) w_79 ?_
        refine sr_iconst (pc' := 157) dX5_moveIn_156 rfl (by decide) ?_
        refine sr_isub (pc' := 158) dX5_moveIn_157 rfl ?_
        refine sr_putI (k := 9) (pc' := 161) cls_X5 dX5_moveIn_158 rfl s88_35 rfl (by decide) w_79 rfl rfl (fun μ11 hμ11 => ?_)
        refine sr_goto (pc' := 194) dX5_moveIn_161 rfl ?_
        exact sr_ret dX5_moveIn_194 rfl rfl
      · exact sr_ret dX5_moveIn_194 rfl rfl
    · refine sr_fgt (fgt_s (fgt_n (fgt_s (fgt_s (fgt_n (fgt_n fgt_nil)))))) ?_
      exact run_moveIn_164_s x2 μ
def run_moveIn_18   (x1 x2 s0 : Int) (μ : Mem) : Option (Mem) := (run_isDone μ x2).bind fun u1 => if u1 = 0 then ((roa_part 1 μ x2 6).bind fun u2 => if x1 ≤ u2 then (some μ) else (if s0 = 0 then (run_moveIn_52 x1 x2 μ) else (if (iRem x1 2) = 0 then (run_moveIn_52 x1 x2 μ) else (some μ)))) else (some μ)
theorem run_moveIn_18_s {l : Launch} {G : Nv}     : ∀ (x1 x2 s0 : Int) (μ : Mem), SR l G S88 mX5_moveIn (run_moveIn_18 x1 x2 s0 μ) jM 18 [some (vR 35), some (vI x1), some (vI x2), none, none, none] [vI s0] μ := by
  intro x1 x2 s0 μ
  unfold run_moveIn_18
  refine sr_istore_n (i := 3) (lv' := [some (vR 35), some (vI x1), some (vI x2), some (vI s0), none, none]) (pc' := 19) dX5_moveIn_18 rfl rfl (by decide) rfl ?_
  refine sr_aload_n (i := 0) (pc' := 20) dX5_moveIn_19 rfl rfl rfl ?_
  refine sr_iload_n (i := 2) (pc' := 21) dX5_moveIn_20 rfl rfl rfl ?_
  refine sr_callV1_I (pc' := 24) (run_isDone_sp x2 μ) dX5_moveIn_21 rfl mg_X5_isDone mi_X5_isDone (Or.inl ⟨5, _, TX5, 13, s88_35, rfl⟩) ⟨Nat.le_of_ble_eq_true rfl, Nat.le_of_ble_eq_true rfl⟩ w_87 (Nat.le_of_ble_eq_true rfl) (fun u1 hu1 hcu1 hzu1 => ?_)
  refine sr_if_ne (pc' := 27) (tgt := 51) dX5_moveIn_24 rfl rfl (fun c24 => ?_) (fun c24 => ?_)
  · refine sr_iload_n (i := 1) (pc' := 28) dX5_moveIn_27 rfl rfl rfl ?_
    refine sr_aload_n (i := 0) (pc' := 29) dX5_moveIn_28 rfl rfl rfl ?_
    refine sr_getR (k := 0) (b := 1) (pc' := 32) cls_X5 dX5_moveIn_29 rfl s88_35 rfl (by decide) w_64 ?_
    refine sr_iload_n (i := 2) (pc' := 33) dX5_moveIn_32 rfl rfl rfl ?_
    refine sr_bipush (pc' := 35) dX5_moveIn_33 rfl (by decide) (by decide) ?_
    refine sr_callVN2_I (pc' := 38) (roa_part_sp isRoad_1 x2 6 μ) dX5_moveIn_35 rfl mg_X4_part mi_X4_part (Or.inl ⟨4, _, TX4, 12, isRoad_1.1, rfl⟩) ⟨Nat.le_of_ble_eq_true rfl, Nat.le_of_ble_eq_true rfl⟩ w_68 (Nat.le_of_ble_eq_true rfl) (fun u2 hu2 hcu2 hzu2 => ?_)
    refine sr_icmp_le (pc' := 41) (tgt := 51) dX5_moveIn_38 rfl rfl (fun c38 => ?_) (fun c38 => ?_)
    · exact sr_ret dX5_moveIn_51 rfl rfl
    · refine sr_iload_n (i := 3) (pc' := 42) dX5_moveIn_41 rfl rfl rfl ?_
      refine sr_if_eq (pc' := 45) (tgt := 52) dX5_moveIn_42 rfl rfl (fun c42 => ?_) (fun c42 => ?_)
      · refine sr_fgt (fgt_s (fgt_s (fgt_s (fgt_n (fgt_s (fgt_s fgt_nil)))))) ?_
        exact run_moveIn_52_s x1 x2 μ
      · refine sr_iload_n (i := 1) (pc' := 46) dX5_moveIn_45 rfl rfl rfl ?_
        refine sr_iconst (pc' := 47) dX5_moveIn_46 rfl (by decide) ?_
        refine sr_irem (pc' := 48) dX5_moveIn_47 rfl (by decide) ?_
        refine sr_if_eq (pc' := 51) (tgt := 52) dX5_moveIn_48 rfl rfl (fun c48 => ?_) (fun c48 => ?_)
        · refine sr_fgt (fgt_s (fgt_s (fgt_s (fgt_n (fgt_s (fgt_s fgt_nil)))))) ?_
          exact run_moveIn_52_s x1 x2 μ
        · exact sr_ret dX5_moveIn_51 rfl rfl
  · exact sr_ret dX5_moveIn_51 rfl rfl
def run_moveIn   (x1 x2 : Int) (μ : Mem) : Option (Mem) := (roa_part 1 μ x2 0).bind fun u1 => if u1 = 2 then (run_moveIn_18 x1 x2 1 μ) else (run_moveIn_18 x1 x2 0 μ)
theorem run_moveIn_sp {l : Launch} {G : Nv}   (x1 x2 : Int) (μ : Mem) : SP l G S88 mX5_moveIn [vR 35, vI x1, vI x2] μ (run_moveIn x1 x2 μ) jM := by
  refine sp_go (lv := [some (vR 35), some (vI x1), some (vI x2), none, none, none]) pn_X5 (Nat.le_of_ble_eq_true rfl) rfl ?_
  unfold run_moveIn
  refine sr_aload_n (i := 0) (pc' := 1) dX5_moveIn_0 rfl rfl rfl ?_
  refine sr_getR (k := 0) (b := 1) (pc' := 4) cls_X5 dX5_moveIn_1 rfl s88_35 rfl (by decide) w_64 ?_
  refine sr_iload_n (i := 2) (pc' := 5) dX5_moveIn_4 rfl rfl rfl ?_
  refine sr_iconst (pc' := 6) dX5_moveIn_5 rfl (by decide) ?_
  refine sr_callVN2_I (pc' := 9) (roa_part_sp isRoad_1 x2 0 μ) dX5_moveIn_6 rfl mg_X4_part mi_X4_part (Or.inl ⟨4, _, TX4, 12, isRoad_1.1, rfl⟩) ⟨Nat.le_of_ble_eq_true rfl, Nat.le_of_ble_eq_true rfl⟩ w_68 (Nat.le_of_ble_eq_true rfl) (fun u1 hu1 hcu1 hzu1 => ?_)
  refine sr_iconst (pc' := 10) dX5_moveIn_9 rfl (by decide) ?_
  refine sr_icmp_ne (pc' := 13) (tgt := 17) dX5_moveIn_10 rfl rfl (fun c10 => ?_) (fun c10 => ?_)
  · refine sr_iconst (pc' := 14) dX5_moveIn_13 rfl (by decide) ?_
    refine sr_goto (pc' := 18) dX5_moveIn_14 rfl ?_
    exact run_moveIn_18_s x1 x2 1 μ
  · refine sr_iconst (pc' := 18) dX5_moveIn_17 rfl (by decide) ?_
    exact run_moveIn_18_s x1 x2 0 μ
def roa_isFrost (r : Nat) (μ : Mem)  (x1 : Int) : Option (Int) := if (lCmp (lAnd (lShr (μ r 8) x1) 1) 0) = 0 then (some 0) else (some 1)
theorem roa_isFrost_sp {l : Launch} {G : Nv} {Sh : Shp} {r : Nat} (hr : IsRoad Sh r) (x1 : Int) (μ : Mem) : SP l G Sh mX4_isFrost [vR r, vI x1] μ (roa_isFrost r μ x1) (jI μ) := by
  refine sp_go (lv := [some (vR r), some (vI x1)]) pn_X4 (Nat.le_of_ble_eq_true rfl) rfl ?_
  unfold roa_isFrost
  refine sr_aload_n (i := 0) (pc' := 1) dX4_isFrost_0 rfl rfl rfl ?_
  refine sr_getL (k := 8) (pc' := 4) cls_X4 dX4_isFrost_1 rfl hr.1 rfl (by decide) w_11 ?_
  refine sr_iload_n (i := 1) (pc' := 5) dX4_isFrost_4 rfl rfl rfl ?_
  refine sr_lshr (pc' := 6) dX4_isFrost_5 rfl ?_
  refine sr_lconst (x := 1) (pc' := 7) dX4_isFrost_6 rfl (by decide) rfl ?_
  refine sr_land (pc' := 8) dX4_isFrost_7 rfl ?_
  refine sr_lconst (x := 0) (pc' := 9) dX4_isFrost_8 rfl (by decide) rfl ?_
  refine sr_lcmp (pc' := 10) dX4_isFrost_9 rfl ?_
  refine sr_if_eq (pc' := 13) (tgt := 17) dX4_isFrost_10 rfl rfl (fun c10 => ?_) (fun c10 => ?_)
  · refine sr_iconst (pc' := 18) dX4_isFrost_17 rfl (by decide) ?_
    exact sr_iretZ dX4_isFrost_18 rfl (Or.inl rfl) rfl
  · refine sr_iconst (pc' := 14) dX4_isFrost_13 rfl (by decide) ?_
    refine sr_goto (pc' := 18) dX4_isFrost_14 rfl ?_
    exact sr_iretZ dX4_isFrost_18 rfl (Or.inr rfl) rfl
def run_goHour_47   (x1 : Int) (μ : Mem) : Option (Mem) := (roa_isFrost 1 μ x1).bind fun u1 => if u1 = 0 then (some μ) else (bnd (mset μ 35 8 (wI ((μ 35 8) + 1))) fun μ2 => some μ2)
theorem run_goHour_47_s {l : Launch} {G : Nv}     : ∀ (x1 : Int) (μ : Mem), SR l G S88 mX5_goHour (run_goHour_47 x1 μ) jM 47 [some (vR 35), some (vI x1), none] [] μ := by
  intro x1 μ
  unfold run_goHour_47
  refine sr_aload_n (i := 0) (pc' := 48) dX5_goHour_47 rfl rfl rfl ?_
  refine sr_getR (k := 0) (b := 1) (pc' := 51) cls_X5 dX5_goHour_48 rfl s88_35 rfl (by decide) w_64 ?_
  refine sr_iload_n (i := 1) (pc' := 52) dX5_goHour_51 rfl rfl rfl ?_
  refine sr_callVN1_I (pc' := 55) (roa_isFrost_sp isRoad_1 x1 μ) dX5_goHour_52 rfl mg_X4_isFrost mi_X4_isFrost (Or.inl ⟨4, _, TX4, 12, isRoad_1.1, rfl⟩) ⟨Nat.le_of_ble_eq_true rfl, Nat.le_of_ble_eq_true rfl⟩ w_99 (Nat.le_of_ble_eq_true rfl) (fun u1 hu1 hcu1 hzu1 => ?_)
  refine sr_if_eq (pc' := 58) (tgt := 68) dX5_goHour_55 rfl rfl (fun c55 => ?_) (fun c55 => ?_)
  · exact sr_ret dX5_goHour_68 rfl rfl
  · refine sr_aload_n (i := 0) (pc' := 59) dX5_goHour_58 rfl rfl rfl ?_
    refine sr_dup (pc' := 60) dX5_goHour_59 rfl rfl ?_
    refine sr_getI (k := 8) (pc' := 63) cls_X5 dX5_goHour_60 rfl s88_35 rfl (by decide) w_78 ?_
    refine sr_iconst (pc' := 64) dX5_goHour_63 rfl (by decide) ?_
    refine sr_iadd (pc' := 65) dX5_goHour_64 rfl ?_
    refine sr_putI (k := 8) (pc' := 68) cls_X5 dX5_goHour_65 rfl s88_35 rfl (by decide) w_78 rfl rfl (fun μ2 hμ2 => ?_)
    exact sr_ret dX5_goHour_68 rfl rfl
def run_goHour_7   : Nat → Int → Int → Mem → Option (Mem)
  | 0, _, _, _ => none
  | n + 1, x1, x2, μ => if (μ 35 9) ≤ 0 then (run_goHour_47 x1 μ) else (if (μ 36 1) ≤ x2 then (run_goHour_47 x1 μ) else ((ww_at 37 5 μ x2).bind fun u1 => (run_moveIn x1 u1 μ).bind fun μ2 => run_goHour_7 n x1 (wI (x2 + 1)) μ2))
theorem run_goHour_7_s {l : Launch} {G : Nv}     : ∀ (n : Nat) (x1 x2 : Int) (μ : Mem), SR l G S88 mX5_goHour (run_goHour_7 n x1 x2 μ) jM 7 [some (vR 35), some (vI x1), some (vI x2)] [] μ := by
  intro n
  induction n with
  | zero => intro x1 x2 μ; exact sr_none
  | succ n ih =>
    intro x1 x2 μ
    rw [run_goHour_7.eq_2]
    refine sr_aload_n (i := 0) (pc' := 8) dX5_goHour_7 rfl rfl rfl ?_
    refine sr_getI (k := 9) (pc' := 11) cls_X5 dX5_goHour_8 rfl s88_35 rfl (by decide) w_79 ?_
    refine sr_if_le (pc' := 14) (tgt := 47) dX5_goHour_11 rfl rfl (fun c11 => ?_) (fun c11 => ?_)
    · refine sr_fgt (fgt_s (fgt_s (fgt_n fgt_nil))) ?_
      exact run_goHour_47_s x1 μ
    · refine sr_iload_n (i := 2) (pc' := 15) dX5_goHour_14 rfl rfl rfl ?_
      refine sr_aload_n (i := 0) (pc' := 16) dX5_goHour_15 rfl rfl rfl ?_
      refine sr_getR (k := 1) (b := 36) (pc' := 19) cls_X5 dX5_goHour_16 rfl s88_35 rfl (by decide) w_83 ?_
      refine sr_getIN (k := 1) (pc' := 22) cls_X1 dX5_goHour_19 rfl isOrder_36.1 rfl (by decide) w_100 ?_
      refine sr_icmp_ge (pc' := 25) (tgt := 47) dX5_goHour_22 rfl rfl (fun c22 => ?_) (fun c22 => ?_)
      · refine sr_fgt (fgt_s (fgt_s (fgt_n fgt_nil))) ?_
        exact run_goHour_47_s x1 μ
      · refine sr_aload_n (i := 0) (pc' := 26) dX5_goHour_25 rfl rfl rfl ?_
        refine sr_iload_n (i := 1) (pc' := 27) dX5_goHour_26 rfl rfl rfl ?_
        refine sr_aload_n (i := 0) (pc' := 28) dX5_goHour_27 rfl rfl rfl ?_
        refine sr_getR (k := 1) (b := 36) (pc' := 31) cls_X5 dX5_goHour_28 rfl s88_35 rfl (by decide) w_83 ?_
        refine sr_getRN (k := 0) (b := 37) (pc' := 34) cls_X1 dX5_goHour_31 rfl isOrder_36.1 rfl (by decide) w_101 ?_
        refine sr_iload_n (i := 2) (pc' := 35) dX5_goHour_34 rfl rfl rfl ?_
        refine sr_callSN2_I (pc' := 38) (ww_at_sp isOrder_36.2 (by decide) x2 μ) dX5_goHour_35 rfl mg_X8_at ms_X8_at ⟨Nat.le_of_ble_eq_true rfl, Nat.le_of_ble_eq_true rfl⟩ w_85 (Nat.le_of_ble_eq_true rfl) (fun u1 hu1 hcu1 hzu1 => ?_)
        refine sr_callV2_M (pc' := 41) (run_moveIn_sp x1 u1 μ) dX5_goHour_38 rfl mg_X5_moveIn mi_X5_moveIn (Or.inl ⟨5, _, TX5, 13, s88_35, rfl⟩) ⟨Nat.le_of_ble_eq_true rfl, Nat.le_of_ble_eq_true rfl⟩ w_102 (Nat.le_of_ble_eq_true rfl) (fun μ2 hμ2 => ?_)
        refine sr_iinc (lv' := [some (vR 35), some (vI x1), some (vI (wI (x2 + 1)))]) (pc' := 44) dX5_goHour_41 rfl (by decide) rfl rfl ?_
        refine sr_goto (pc' := 7) dX5_goHour_44 rfl ?_
        exact ih x1 (wI (x2 + 1)) μ2
def run_goHour   (x1 : Int) (μ : Mem) : Option (Mem) := bnd (mset μ 35 12 0) fun μ1 => run_goHour_7 BIG x1 0 μ1
theorem run_goHour_sp {l : Launch} {G : Nv}   (x1 : Int) (μ : Mem) : SP l G S88 mX5_goHour [vR 35, vI x1] μ (run_goHour x1 μ) jM := by
  refine sp_go (lv := [some (vR 35), some (vI x1), none]) pn_X5 (Nat.le_of_ble_eq_true rfl) rfl ?_
  unfold run_goHour
  refine sr_aload_n (i := 0) (pc' := 1) dX5_goHour_0 rfl rfl rfl ?_
  refine sr_iconst (pc' := 2) dX5_goHour_1 rfl (by decide) ?_
  refine sr_putI (k := 12) (pc' := 5) cls_X5 dX5_goHour_2 rfl s88_35 rfl (by decide) w_66 rfl rfl (fun μ1 hμ1 => ?_)
  refine sr_iconst (pc' := 6) dX5_goHour_5 rfl (by decide) ?_
  refine sr_istore_n (i := 2) (lv' := [some (vR 35), some (vI x1), some (vI 0)]) (pc' := 7) dX5_goHour_6 rfl rfl (by decide) rfl ?_
  exact run_goHour_7_s BIG x1 0 μ1
def run_upTo_2   : Nat → Int → Int → Mem → Option (Mem)
  | 0, _, _, _ => none
  | n + 1, x1, x2, μ => if x1 < x2 then (some μ) else ((run_goHour x2 μ).bind fun μ1 => run_upTo_2 n x1 (wI (x2 + 1)) μ1)
theorem run_upTo_2_s {l : Launch} {G : Nv}     : ∀ (n : Nat) (x1 x2 : Int) (μ : Mem), SR l G S88 mX5_upTo (run_upTo_2 n x1 x2 μ) jM 2 [some (vR 35), some (vI x1), some (vI x2)] [] μ := by
  intro n
  induction n with
  | zero => intro x1 x2 μ; exact sr_none
  | succ n ih =>
    intro x1 x2 μ
    rw [run_upTo_2.eq_2]
    refine sr_iload_n (i := 2) (pc' := 3) dX5_upTo_2 rfl rfl rfl ?_
    refine sr_iload_n (i := 1) (pc' := 4) dX5_upTo_3 rfl rfl rfl ?_
    refine sr_icmp_gt (pc' := 7) (tgt := 18) dX5_upTo_4 rfl rfl (fun c4 => ?_) (fun c4 => ?_)
    · exact sr_ret dX5_upTo_18 rfl rfl
    · refine sr_aload_n (i := 0) (pc' := 8) dX5_upTo_7 rfl rfl rfl ?_
      refine sr_iload_n (i := 2) (pc' := 9) dX5_upTo_8 rfl rfl rfl ?_
      refine sr_callV1_M (pc' := 12) (run_goHour_sp x2 μ) dX5_upTo_9 rfl mg_X5_goHour mi_X5_goHour (Or.inl ⟨5, _, TX5, 13, s88_35, rfl⟩) ⟨Nat.le_of_ble_eq_true rfl, Nat.le_of_ble_eq_true rfl⟩ w_103 (Nat.le_of_ble_eq_true rfl) (fun μ1 hμ1 => ?_)
      refine sr_iinc (lv' := [some (vR 35), some (vI x1), some (vI (wI (x2 + 1)))]) (pc' := 15) dX5_upTo_12 rfl (by decide) rfl rfl ?_
      refine sr_goto (pc' := 2) dX5_upTo_15 rfl ?_
      exact ih x1 (wI (x2 + 1)) μ1
def run_upTo   (x1 : Int) (μ : Mem) : Option (Mem) := run_upTo_2 BIG x1 1 μ
theorem run_upTo_sp {l : Launch} {G : Nv}   (x1 : Int) (μ : Mem) : SP l G S88 mX5_upTo [vR 35, vI x1] μ (run_upTo x1 μ) jM := by
  refine sp_go (lv := [some (vR 35), some (vI x1), none]) pn_X5 (Nat.le_of_ble_eq_true rfl) rfl ?_
  unfold run_upTo
  refine sr_iconst (pc' := 1) dX5_upTo_0 rfl (by decide) ?_
  refine sr_istore_n (i := 2) (lv' := [some (vR 35), some (vI x1), some (vI 1)]) (pc' := 2) dX5_upTo_1 rfl rfl (by decide) rfl ?_
  exact run_upTo_2_s BIG x1 1 μ
def ww_runUpTo   (x1 : Int) (μ : Mem) : Option (Mem) := (ord_begin 44 (μ 1 10) μ).bind fun μ1 => (run_begin 44 μ1).bind fun μ2 => (run_upTo x1 μ2).bind fun μ3 => some μ3
theorem ww_runUpTo_sp {l : Launch} {G : Nv}   (x1 : Int) (μ : Mem) : SP l G S88 mX8_runUpTo [vR 0, vI x1] μ (ww_runUpTo x1 μ) jM := by
  refine sp_go (lv := [some (vR 0), some (vI x1)]) pn_X8 (Nat.le_of_ble_eq_true rfl) rfl ?_
  unfold ww_runUpTo
  refine sr_aload_n (i := 0) (pc' := 1) dX8_runUpTo_0 rfl rfl rfl ?_
  refine sr_getR (k := 5) (b := 44) (pc' := 4) cls_X8 dX8_runUpTo_1 rfl s88_0 rfl (by decide) w_104 ?_
  refine sr_aload_n (i := 0) (pc' := 5) dX8_runUpTo_4 rfl rfl rfl ?_
  refine sr_getR (k := 0) (b := 1) (pc' := 8) cls_X8 dX8_runUpTo_5 rfl s88_0 rfl (by decide) w_19 ?_
  refine sr_getI (k := 10) (pc' := 11) cls_X4 dX8_runUpTo_8 rfl isRoad_1.1 rfl (by decide) w_24 ?_
  refine sr_callVN1_M (pc' := 14) (ord_begin_sp isOrder_44 (μ 1 10) μ) dX8_runUpTo_11 rfl mg_X1_begin mi_X1_begin (Or.inl ⟨1, _, TX1, 2, isOrder_44.1, rfl⟩) ⟨Nat.le_of_ble_eq_true rfl, Nat.le_of_ble_eq_true rfl⟩ w_105 (Nat.le_of_ble_eq_true rfl) (fun μ1 hμ1 => ?_)
  refine sr_aload_n (i := 0) (pc' := 15) dX8_runUpTo_14 rfl rfl rfl ?_
  refine sr_getR (k := 4) (b := 35) (pc' := 18) cls_X8 dX8_runUpTo_15 rfl s88_0 rfl (by decide) w_106 ?_
  refine sr_aload_n (i := 0) (pc' := 19) dX8_runUpTo_18 rfl rfl rfl ?_
  refine sr_getR (k := 5) (b := 44) (pc' := 22) cls_X8 dX8_runUpTo_19 rfl s88_0 rfl (by decide) w_104 ?_
  refine sr_callVN1_M (pc' := 25) (run_begin_sp isOrder_44 μ1) dX8_runUpTo_22 rfl mg_X5_begin mi_X5_begin (Or.inl ⟨5, _, TX5, 13, s88_35, rfl⟩) ⟨Nat.le_of_ble_eq_true rfl, Nat.le_of_ble_eq_true rfl⟩ w_107 (Nat.le_of_ble_eq_true rfl) (fun μ2 hμ2 => ?_)
  refine sr_aload_n (i := 0) (pc' := 26) dX8_runUpTo_25 rfl rfl rfl ?_
  refine sr_getR (k := 4) (b := 35) (pc' := 29) cls_X8 dX8_runUpTo_26 rfl s88_0 rfl (by decide) w_106 ?_
  refine sr_iload_n (i := 1) (pc' := 30) dX8_runUpTo_29 rfl rfl rfl ?_
  refine sr_callVN1_M (pc' := 33) (run_upTo_sp x1 μ2) dX8_runUpTo_30 rfl mg_X5_upTo mi_X5_upTo (Or.inl ⟨5, _, TX5, 13, s88_35, rfl⟩) ⟨Nat.le_of_ble_eq_true rfl, Nat.le_of_ble_eq_true rfl⟩ w_108 (Nat.le_of_ble_eq_true rfl) (fun μ3 hμ3 => ?_)
  exact sr_ret dX8_runUpTo_33 rfl rfl
def ww_deepest_85  (k33 : Int → Int → Int → Int → Mem → Option (Int × Mem)) (x2 x3 x4 x5 : Int) (μ : Mem) : Option (Int × Mem) := k33 x2 x3 x4 (wI (x5 + 1)) μ
theorem ww_deepest_85_s {l : Launch} {G : Nv}   {k33 : Int → Int → Int → Int → Mem → Option (Int × Mem)} (hk33 : ∀ (x2 x3 x4 x5 : Int) (μ : Mem) , SR l G S88 mX8_deepest (k33 x2 x3 x4 x5 μ) jIM 33 [some (vR 0), none, some (vI x2), some (vI x3), some (vI x4), some (vI x5)] [] μ) : ∀ (x2 x3 x4 x5 : Int) (μ : Mem), SR l G S88 mX8_deepest (ww_deepest_85 k33 x2 x3 x4 x5 μ) jIM 85 [some (vR 0), none, some (vI x2), some (vI x3), some (vI x4), some (vI x5)] [] μ := by
  intro x2 x3 x4 x5 μ
  unfold ww_deepest_85
  refine sr_iinc (lv' := [some (vR 0), none, some (vI x2), some (vI x3), some (vI x4), some (vI (wI (x5 + 1)))]) (pc' := 88) dX8_deepest_85 rfl (by decide) rfl rfl ?_
  refine sr_goto (pc' := 33) dX8_deepest_88 rfl ?_
  exact hk33 x2 x3 x4 (wI (x5 + 1)) μ
def ww_deepest_33   : Nat → Int → Int → Int → Int → Mem → Option (Int × Mem)
  | 0, _, _, _, _, _ => none
  | n + 1, x2, x3, x4, x5, μ => if 63 ≤ x5 then (if x2 = 0 then (some (x3, μ)) else (some (x4, μ))) else ((roa_hasRut 1 μ (iDiv x5 3) (iRem x5 3)).bind fun u1 => if u1 = 0 then (ww_deepest_85 (ww_deepest_33 n) x2 x3 x4 x5 μ) else ((run_depthOf μ x5).bind fun u2 => if u2 ≤ x3 then (ww_deepest_85 (ww_deepest_33 n) x2 x3 x4 x5 μ) else ((run_depthOf μ x5).bind fun u3 => ww_deepest_85 (ww_deepest_33 n) x2 u3 x5 x5 μ)))
theorem ww_deepest_33_s {l : Launch} {G : Nv}     : ∀ (n : Nat) (x2 x3 x4 x5 : Int) (μ : Mem), SR l G S88 mX8_deepest (ww_deepest_33 n x2 x3 x4 x5 μ) jIM 33 [some (vR 0), none, some (vI x2), some (vI x3), some (vI x4), some (vI x5)] [] μ := by
  intro n
  induction n with
  | zero => intro x2 x3 x4 x5 μ; exact sr_none
  | succ n ih =>
    intro x2 x3 x4 x5 μ
    rw [ww_deepest_33.eq_2]
    refine sr_iload (pc' := 35) dX8_deepest_33 rfl rfl ?_
    refine sr_bipush (pc' := 37) dX8_deepest_35 rfl (by decide) (by decide) ?_
    refine sr_icmp_ge (pc' := 40) (tgt := 91) dX8_deepest_37 rfl rfl (fun c37 => ?_) (fun c37 => ?_)
    · refine sr_iload_n (i := 2) (pc' := 92) dX8_deepest_91 rfl rfl rfl ?_
      refine sr_if_ne (pc' := 95) (tgt := 99) dX8_deepest_92 rfl rfl (fun c92 => ?_) (fun c92 => ?_)
      · refine sr_iload_n (i := 3) (pc' := 96) dX8_deepest_95 rfl rfl rfl ?_
        refine sr_goto (pc' := 101) dX8_deepest_96 rfl ?_
        exact sr_iretI dX8_deepest_101 rfl rfl
      · refine sr_iload (pc' := 101) dX8_deepest_99 rfl rfl ?_
        exact sr_iretI dX8_deepest_101 rfl rfl
    · refine sr_aload_n (i := 0) (pc' := 41) dX8_deepest_40 rfl rfl rfl ?_
      refine sr_getR (k := 0) (b := 1) (pc' := 44) cls_X8 dX8_deepest_41 rfl s88_0 rfl (by decide) w_19 ?_
      refine sr_iload (pc' := 46) dX8_deepest_44 rfl rfl ?_
      refine sr_iconst (pc' := 47) dX8_deepest_46 rfl (by decide) ?_
      refine sr_idiv (pc' := 48) dX8_deepest_47 rfl (by decide) ?_
      refine sr_iload (pc' := 50) dX8_deepest_48 rfl rfl ?_
      refine sr_iconst (pc' := 51) dX8_deepest_50 rfl (by decide) ?_
      refine sr_irem (pc' := 52) dX8_deepest_51 rfl (by decide) ?_
      refine sr_callVN2_I (pc' := 55) (roa_hasRut_sp isRoad_1 (iDiv x5 3) (iRem x5 3) μ) dX8_deepest_52 rfl mg_X4_hasRut mi_X4_hasRut (Or.inl ⟨4, _, TX4, 12, isRoad_1.1, rfl⟩) ⟨Nat.le_of_ble_eq_true rfl, Nat.le_of_ble_eq_true rfl⟩ w_109 (Nat.le_of_ble_eq_true rfl) (fun u1 hu1 hcu1 hzu1 => ?_)
      refine sr_if_eq (pc' := 58) (tgt := 85) dX8_deepest_55 rfl rfl (fun c55 => ?_) (fun c55 => ?_)
      · exact ww_deepest_85_s ih x2 x3 x4 x5 μ
      · refine sr_aload_n (i := 0) (pc' := 59) dX8_deepest_58 rfl rfl rfl ?_
        refine sr_getR (k := 4) (b := 35) (pc' := 62) cls_X8 dX8_deepest_59 rfl s88_0 rfl (by decide) w_106 ?_
        refine sr_iload (pc' := 64) dX8_deepest_62 rfl rfl ?_
        refine sr_callVN1_I (pc' := 67) (run_depthOf_sp x5 μ) dX8_deepest_64 rfl mg_X5_depthOf mi_X5_depthOf (Or.inl ⟨5, _, TX5, 13, s88_35, rfl⟩) ⟨Nat.le_of_ble_eq_true rfl, Nat.le_of_ble_eq_true rfl⟩ w_110 (Nat.le_of_ble_eq_true rfl) (fun u2 hu2 hcu2 hzu2 => ?_)
        refine sr_iload_n (i := 3) (pc' := 68) dX8_deepest_67 rfl rfl rfl ?_
        refine sr_icmp_le (pc' := 71) (tgt := 85) dX8_deepest_68 rfl rfl (fun c68 => ?_) (fun c68 => ?_)
        · exact ww_deepest_85_s ih x2 x3 x4 x5 μ
        · refine sr_aload_n (i := 0) (pc' := 72) dX8_deepest_71 rfl rfl rfl ?_
          refine sr_getR (k := 4) (b := 35) (pc' := 75) cls_X8 dX8_deepest_72 rfl s88_0 rfl (by decide) w_106 ?_
          refine sr_iload (pc' := 77) dX8_deepest_75 rfl rfl ?_
          refine sr_callVN1_I (pc' := 80) (run_depthOf_sp x5 μ) dX8_deepest_77 rfl mg_X5_depthOf mi_X5_depthOf (Or.inl ⟨5, _, TX5, 13, s88_35, rfl⟩) ⟨Nat.le_of_ble_eq_true rfl, Nat.le_of_ble_eq_true rfl⟩ w_110 (Nat.le_of_ble_eq_true rfl) (fun u3 hu3 hcu3 hzu3 => ?_)
          refine sr_istore_n (i := 3) (lv' := [some (vR 0), none, some (vI x2), some (vI u3), some (vI x4), some (vI x5)]) (pc' := 81) dX8_deepest_80 rfl rfl (by decide) rfl ?_
          refine sr_iload (pc' := 83) dX8_deepest_81 rfl rfl ?_
          refine sr_istore (lv' := [some (vR 0), none, some (vI x2), some (vI u3), some (vI x5), some (vI x5)]) (pc' := 85) dX8_deepest_83 rfl (by decide) rfl ?_
          exact ww_deepest_85_s ih x2 u3 x5 x5 μ
def ww_deepest   (x1 x2 : Int) (μ : Mem) : Option (Int × Mem) := (ww_isBehind μ x1).bind fun u1 => if u1 = 0 then (some ((-1), μ)) else (if x2 < 0 then (some ((-1), μ)) else (if x2 ≤ 1 then ((ww_runUpTo x1 μ).bind fun μ2 => ww_deepest_33 BIG x2 (-4) (-4) 0 μ2) else (some ((-1), μ))))
theorem ww_deepest_sp {l : Launch} {G : Nv}   (x1 x2 : Int) (μ : Mem) : SP l G S88 mX8_deepest [vR 0, vI x1, vI x2] μ (ww_deepest x1 x2 μ) jIM := by
  refine sp_go (lv := [some (vR 0), some (vI x1), some (vI x2), none, none, none]) pn_X8 (Nat.le_of_ble_eq_true rfl) rfl ?_
  unfold ww_deepest
  refine sr_iload_n (i := 1) (pc' := 1) dX8_deepest_0 rfl rfl rfl ?_
  refine sr_callS1_I (pc' := 4) (ww_isBehind_sp x1 μ) dX8_deepest_1 rfl mg_X8_isBehind ms_X8_isBehind ⟨Nat.le_of_ble_eq_true rfl, Nat.le_of_ble_eq_true rfl⟩ w_111 (Nat.le_of_ble_eq_true rfl) (fun u1 hu1 hcu1 hzu1 => ?_)
  refine sr_if_eq (pc' := 7) (tgt := 16) dX8_deepest_4 rfl rfl (fun c4 => ?_) (fun c4 => ?_)
  · refine sr_iconst (pc' := 17) dX8_deepest_16 rfl (by decide) ?_
    exact sr_iretI dX8_deepest_17 rfl rfl
  · refine sr_iload_n (i := 2) (pc' := 8) dX8_deepest_7 rfl rfl rfl ?_
    refine sr_if_lt (pc' := 11) (tgt := 16) dX8_deepest_8 rfl rfl (fun c8 => ?_) (fun c8 => ?_)
    · refine sr_iconst (pc' := 17) dX8_deepest_16 rfl (by decide) ?_
      exact sr_iretI dX8_deepest_17 rfl rfl
    · refine sr_iload_n (i := 2) (pc' := 12) dX8_deepest_11 rfl rfl rfl ?_
      refine sr_iconst (pc' := 13) dX8_deepest_12 rfl (by decide) ?_
      refine sr_icmp_le (pc' := 16) (tgt := 18) dX8_deepest_13 rfl rfl (fun c13 => ?_) (fun c13 => ?_)
      · refine sr_aload_n (i := 0) (pc' := 19) dX8_deepest_18 rfl rfl rfl ?_
        refine sr_iload_n (i := 1) (pc' := 20) dX8_deepest_19 rfl rfl rfl ?_
        refine sr_callV1_M (pc' := 23) (ww_runUpTo_sp x1 μ) dX8_deepest_20 rfl mg_X8_runUpTo mi_X8_runUpTo (Or.inl ⟨8, _, TX8, 11, s88_0, rfl⟩) ⟨Nat.le_of_ble_eq_true rfl, Nat.le_of_ble_eq_true rfl⟩ w_112 (Nat.le_of_ble_eq_true rfl) (fun μ2 hμ2 => ?_)
        refine sr_bipush (pc' := 25) dX8_deepest_23 rfl (by decide) (by decide) ?_
        refine sr_istore_n (i := 3) (lv' := [some (vR 0), some (vI x1), some (vI x2), some (vI (-4)), none, none]) (pc' := 26) dX8_deepest_25 rfl rfl (by decide) rfl ?_
        refine sr_bipush (pc' := 28) dX8_deepest_26 rfl (by decide) (by decide) ?_
        refine sr_istore (lv' := [some (vR 0), some (vI x1), some (vI x2), some (vI (-4)), some (vI (-4)), none]) (pc' := 30) dX8_deepest_28 rfl (by decide) rfl ?_
        refine sr_iconst (pc' := 31) dX8_deepest_30 rfl (by decide) ?_
        refine sr_istore (lv' := [some (vR 0), some (vI x1), some (vI x2), some (vI (-4)), some (vI (-4)), some (vI 0)]) (pc' := 33) dX8_deepest_31 rfl (by decide) rfl ?_
        refine sr_fgt (fgt_s (fgt_n (fgt_s (fgt_s (fgt_s (fgt_s fgt_nil)))))) ?_
        exact ww_deepest_33_s BIG x2 (-4) (-4) 0 μ2
      · refine sr_iconst (pc' := 17) dX8_deepest_16 rfl (by decide) ?_
        exact sr_iretI dX8_deepest_17 rfl rfl
def ww_depth   (x1 x2 x3 : Int) (μ : Mem) : Option (Int × Mem) := (roa_hasYard 1 μ x1).bind fun u1 => if u1 = 0 then (some ((-1), μ)) else ((ww_isWidth μ x2).bind fun u2 => if u2 = 0 then (some ((-1), μ)) else ((ww_isBehind μ x3).bind fun u3 => if u3 = 0 then (some ((-1), μ)) else ((roa_hasRut 1 μ x1 x2).bind fun u4 => if u4 = 0 then (some ((-4), μ)) else ((ww_runUpTo x3 μ).bind fun μ5 => (ww_rut μ5 x1 x2).bind fun u6 => (run_depthOf μ5 u6).bind fun u7 => some (u7, μ5)))))
theorem ww_depth_sp {l : Launch} {G : Nv}   (x1 x2 x3 : Int) (μ : Mem) : SP l G S88 mX8_depth [vR 0, vI x1, vI x2, vI x3] μ (ww_depth x1 x2 x3 μ) jIM := by
  refine sp_go (lv := [some (vR 0), some (vI x1), some (vI x2), some (vI x3)]) pn_X8 (Nat.le_of_ble_eq_true rfl) rfl ?_
  unfold ww_depth
  refine sr_aload_n (i := 0) (pc' := 1) dX8_depth_0 rfl rfl rfl ?_
  refine sr_getR (k := 0) (b := 1) (pc' := 4) cls_X8 dX8_depth_1 rfl s88_0 rfl (by decide) w_19 ?_
  refine sr_iload_n (i := 1) (pc' := 5) dX8_depth_4 rfl rfl rfl ?_
  refine sr_callVN1_I (pc' := 8) (roa_hasYard_sp isRoad_1 x1 μ) dX8_depth_5 rfl mg_X4_hasYard mi_X4_hasYard (Or.inl ⟨4, _, TX4, 12, isRoad_1.1, rfl⟩) ⟨Nat.le_of_ble_eq_true rfl, Nat.le_of_ble_eq_true rfl⟩ w_113 (Nat.le_of_ble_eq_true rfl) (fun u1 hu1 hcu1 hzu1 => ?_)
  refine sr_if_eq (pc' := 11) (tgt := 25) dX8_depth_8 rfl rfl (fun c8 => ?_) (fun c8 => ?_)
  · refine sr_iconst (pc' := 26) dX8_depth_25 rfl (by decide) ?_
    exact sr_iretI dX8_depth_26 rfl rfl
  · refine sr_iload_n (i := 2) (pc' := 12) dX8_depth_11 rfl rfl rfl ?_
    refine sr_callS1_I (pc' := 15) (ww_isWidth_sp x2 μ) dX8_depth_12 rfl mg_X8_isWidth ms_X8_isWidth ⟨Nat.le_of_ble_eq_true rfl, Nat.le_of_ble_eq_true rfl⟩ w_114 (Nat.le_of_ble_eq_true rfl) (fun u2 hu2 hcu2 hzu2 => ?_)
    refine sr_if_eq (pc' := 18) (tgt := 25) dX8_depth_15 rfl rfl (fun c15 => ?_) (fun c15 => ?_)
    · refine sr_iconst (pc' := 26) dX8_depth_25 rfl (by decide) ?_
      exact sr_iretI dX8_depth_26 rfl rfl
    · refine sr_iload_n (i := 3) (pc' := 19) dX8_depth_18 rfl rfl rfl ?_
      refine sr_callS1_I (pc' := 22) (ww_isBehind_sp x3 μ) dX8_depth_19 rfl mg_X8_isBehind ms_X8_isBehind ⟨Nat.le_of_ble_eq_true rfl, Nat.le_of_ble_eq_true rfl⟩ w_111 (Nat.le_of_ble_eq_true rfl) (fun u3 hu3 hcu3 hzu3 => ?_)
      refine sr_if_ne (pc' := 25) (tgt := 27) dX8_depth_22 rfl rfl (fun c22 => ?_) (fun c22 => ?_)
      · refine sr_iconst (pc' := 26) dX8_depth_25 rfl (by decide) ?_
        exact sr_iretI dX8_depth_26 rfl rfl
      · refine sr_aload_n (i := 0) (pc' := 28) dX8_depth_27 rfl rfl rfl ?_
        refine sr_getR (k := 0) (b := 1) (pc' := 31) cls_X8 dX8_depth_28 rfl s88_0 rfl (by decide) w_19 ?_
        refine sr_iload_n (i := 1) (pc' := 32) dX8_depth_31 rfl rfl rfl ?_
        refine sr_iload_n (i := 2) (pc' := 33) dX8_depth_32 rfl rfl rfl ?_
        refine sr_callVN2_I (pc' := 36) (roa_hasRut_sp isRoad_1 x1 x2 μ) dX8_depth_33 rfl mg_X4_hasRut mi_X4_hasRut (Or.inl ⟨4, _, TX4, 12, isRoad_1.1, rfl⟩) ⟨Nat.le_of_ble_eq_true rfl, Nat.le_of_ble_eq_true rfl⟩ w_109 (Nat.le_of_ble_eq_true rfl) (fun u4 hu4 hcu4 hzu4 => ?_)
        refine sr_if_ne (pc' := 39) (tgt := 42) dX8_depth_36 rfl rfl (fun c36 => ?_) (fun c36 => ?_)
        · refine sr_bipush (pc' := 41) dX8_depth_39 rfl (by decide) (by decide) ?_
          exact sr_iretI dX8_depth_41 rfl rfl
        · refine sr_aload_n (i := 0) (pc' := 43) dX8_depth_42 rfl rfl rfl ?_
          refine sr_iload_n (i := 3) (pc' := 44) dX8_depth_43 rfl rfl rfl ?_
          refine sr_callV1_M (pc' := 47) (ww_runUpTo_sp x3 μ) dX8_depth_44 rfl mg_X8_runUpTo mi_X8_runUpTo (Or.inl ⟨8, _, TX8, 11, s88_0, rfl⟩) ⟨Nat.le_of_ble_eq_true rfl, Nat.le_of_ble_eq_true rfl⟩ w_112 (Nat.le_of_ble_eq_true rfl) (fun μ5 hμ5 => ?_)
          refine sr_aload_n (i := 0) (pc' := 48) dX8_depth_47 rfl rfl rfl ?_
          refine sr_getR (k := 4) (b := 35) (pc' := 51) cls_X8 dX8_depth_48 rfl s88_0 rfl (by decide) w_106 ?_
          refine sr_iload_n (i := 1) (pc' := 52) dX8_depth_51 rfl rfl rfl ?_
          refine sr_iload_n (i := 2) (pc' := 53) dX8_depth_52 rfl rfl rfl ?_
          refine sr_callS2_I (pc' := 56) (ww_rut_sp x1 x2 μ5) dX8_depth_53 rfl mg_X8_rut ms_X8_rut ⟨Nat.le_of_ble_eq_true rfl, Nat.le_of_ble_eq_true rfl⟩ w_115 (Nat.le_of_ble_eq_true rfl) (fun u6 hu6 hcu6 hzu6 => ?_)
          refine sr_callVN1_I (pc' := 59) (run_depthOf_sp u6 μ5) dX8_depth_56 rfl mg_X5_depthOf mi_X5_depthOf (Or.inl ⟨5, _, TX5, 13, s88_35, rfl⟩) ⟨Nat.le_of_ble_eq_true rfl, Nat.le_of_ble_eq_true rfl⟩ w_110 (Nat.le_of_ble_eq_true rfl) (fun u7 hu7 hcu7 hzu7 => ?_)
          exact sr_iretI dX8_depth_59 rfl rfl
def ww_swap (a0 n0 : Nat)  (x1 x2 : Int) (μ : Mem) : Option (Int × Mem) := (ww_at a0 n0 μ x1).bind fun u1 => (ww_put a0 n0 x1 x2 μ).bind fun μ2 => some (u1, μ2)
theorem ww_swap_sp {l : Launch} {G : Nv} {Sh : Shp} {a0 n0 : Nat} (ha0 : Sh[a0]? = some (0, n0, [])) (hn0 : n0 < 2147483648) (x1 x2 : Int) (μ : Mem) : SP l G Sh mX8_swap [vR a0, vI x1, vI x2] μ (ww_swap a0 n0 x1 x2 μ) jIM := by
  refine sp_go (lv := [some (vR a0), some (vI x1), some (vI x2), none]) pn_X8 (Nat.le_of_ble_eq_true rfl) rfl ?_
  unfold ww_swap
  refine sr_aload_n (i := 0) (pc' := 1) dX8_swap_0 rfl rfl rfl ?_
  refine sr_iload_n (i := 1) (pc' := 2) dX8_swap_1 rfl rfl rfl ?_
  refine sr_callS2_I (pc' := 5) (ww_at_sp ha0 hn0 x1 μ) dX8_swap_2 rfl mg_X8_at ms_X8_at ⟨Nat.le_of_ble_eq_true rfl, Nat.le_of_ble_eq_true rfl⟩ w_48 (Nat.le_of_ble_eq_true rfl) (fun u1 hu1 hcu1 hzu1 => ?_)
  refine sr_istore_n (i := 3) (lv' := [some (vR a0), some (vI x1), some (vI x2), some (vI u1)]) (pc' := 6) dX8_swap_5 rfl rfl (by decide) rfl ?_
  refine sr_aload_n (i := 0) (pc' := 7) dX8_swap_6 rfl rfl rfl ?_
  refine sr_iload_n (i := 1) (pc' := 8) dX8_swap_7 rfl rfl rfl ?_
  refine sr_iload_n (i := 2) (pc' := 9) dX8_swap_8 rfl rfl rfl ?_
  refine sr_callS3_M (pc' := 12) (ww_put_sp ha0 hn0 x1 x2 μ) dX8_swap_9 rfl mg_X8_put ms_X8_put ⟨Nat.le_of_ble_eq_true rfl, Nat.le_of_ble_eq_true rfl⟩ w_116 (Nat.le_of_ble_eq_true rfl) (fun μ2 hμ2 => ?_)
  refine sr_iload_n (i := 3) (pc' := 13) dX8_swap_12 rfl rfl rfl ?_
  exact sr_iretI dX8_swap_13 rfl rfl
def ww_dig   (x1 x2 x3 : Int) (μ : Mem) : Option (Int × Mem) := (roa_hasYard 1 μ x1).bind fun u1 => if u1 = 0 then (some ((-1), μ)) else ((ww_isWidth μ x2).bind fun u2 => if u2 = 0 then (some ((-1), μ)) else (if x3 < 0 then (some ((-1), μ)) else (if x3 ≤ 99 then ((roa_hasRut 1 μ x1 x2).bind fun u3 => if u3 = 0 then (some ((-2), μ)) else ((pla_drop μ).bind fun μ4 => (ww_rut μ4 x1 x2).bind fun u5 => (ww_swap 5 63 u5 x3 μ4).bind fun u6 => some (u6.1, u6.2))) else (some ((-1), μ)))))
theorem ww_dig_sp {l : Launch} {G : Nv}   (x1 x2 x3 : Int) (μ : Mem) : SP l G S88 mX8_dig [vR 0, vI x1, vI x2, vI x3] μ (ww_dig x1 x2 x3 μ) jIM := by
  refine sp_go (lv := [some (vR 0), some (vI x1), some (vI x2), some (vI x3)]) pn_X8 (Nat.le_of_ble_eq_true rfl) rfl ?_
  unfold ww_dig
  refine sr_aload_n (i := 0) (pc' := 1) dX8_dig_0 rfl rfl rfl ?_
  refine sr_getR (k := 0) (b := 1) (pc' := 4) cls_X8 dX8_dig_1 rfl s88_0 rfl (by decide) w_19 ?_
  refine sr_iload_n (i := 1) (pc' := 5) dX8_dig_4 rfl rfl rfl ?_
  refine sr_callVN1_I (pc' := 8) (roa_hasYard_sp isRoad_1 x1 μ) dX8_dig_5 rfl mg_X4_hasYard mi_X4_hasYard (Or.inl ⟨4, _, TX4, 12, isRoad_1.1, rfl⟩) ⟨Nat.le_of_ble_eq_true rfl, Nat.le_of_ble_eq_true rfl⟩ w_113 (Nat.le_of_ble_eq_true rfl) (fun u1 hu1 hcu1 hzu1 => ?_)
  refine sr_if_eq (pc' := 11) (tgt := 28) dX8_dig_8 rfl rfl (fun c8 => ?_) (fun c8 => ?_)
  · refine sr_iconst (pc' := 29) dX8_dig_28 rfl (by decide) ?_
    exact sr_iretI dX8_dig_29 rfl rfl
  · refine sr_iload_n (i := 2) (pc' := 12) dX8_dig_11 rfl rfl rfl ?_
    refine sr_callS1_I (pc' := 15) (ww_isWidth_sp x2 μ) dX8_dig_12 rfl mg_X8_isWidth ms_X8_isWidth ⟨Nat.le_of_ble_eq_true rfl, Nat.le_of_ble_eq_true rfl⟩ w_114 (Nat.le_of_ble_eq_true rfl) (fun u2 hu2 hcu2 hzu2 => ?_)
    refine sr_if_eq (pc' := 18) (tgt := 28) dX8_dig_15 rfl rfl (fun c15 => ?_) (fun c15 => ?_)
    · refine sr_iconst (pc' := 29) dX8_dig_28 rfl (by decide) ?_
      exact sr_iretI dX8_dig_29 rfl rfl
    · refine sr_iload_n (i := 3) (pc' := 19) dX8_dig_18 rfl rfl rfl ?_
      refine sr_if_lt (pc' := 22) (tgt := 28) dX8_dig_19 rfl rfl (fun c19 => ?_) (fun c19 => ?_)
      · refine sr_iconst (pc' := 29) dX8_dig_28 rfl (by decide) ?_
        exact sr_iretI dX8_dig_29 rfl rfl
      · refine sr_iload_n (i := 3) (pc' := 23) dX8_dig_22 rfl rfl rfl ?_
        refine sr_bipush (pc' := 25) dX8_dig_23 rfl (by decide) (by decide) ?_
        refine sr_icmp_le (pc' := 28) (tgt := 30) dX8_dig_25 rfl rfl (fun c25 => ?_) (fun c25 => ?_)
        · refine sr_aload_n (i := 0) (pc' := 31) dX8_dig_30 rfl rfl rfl ?_
          refine sr_getR (k := 0) (b := 1) (pc' := 34) cls_X8 dX8_dig_31 rfl s88_0 rfl (by decide) w_19 ?_
          refine sr_iload_n (i := 1) (pc' := 35) dX8_dig_34 rfl rfl rfl ?_
          refine sr_iload_n (i := 2) (pc' := 36) dX8_dig_35 rfl rfl rfl ?_
          refine sr_callVN2_I (pc' := 39) (roa_hasRut_sp isRoad_1 x1 x2 μ) dX8_dig_36 rfl mg_X4_hasRut mi_X4_hasRut (Or.inl ⟨4, _, TX4, 12, isRoad_1.1, rfl⟩) ⟨Nat.le_of_ble_eq_true rfl, Nat.le_of_ble_eq_true rfl⟩ w_109 (Nat.le_of_ble_eq_true rfl) (fun u3 hu3 hcu3 hzu3 => ?_)
          refine sr_if_ne (pc' := 42) (tgt := 45) dX8_dig_39 rfl rfl (fun c39 => ?_) (fun c39 => ?_)
          · refine sr_bipush (pc' := 44) dX8_dig_42 rfl (by decide) (by decide) ?_
            exact sr_iretI dX8_dig_44 rfl rfl
          · refine sr_aload_n (i := 0) (pc' := 46) dX8_dig_45 rfl rfl rfl ?_
            refine sr_getR (k := 6) (b := 46) (pc' := 49) cls_X8 dX8_dig_46 rfl s88_0 rfl (by decide) w_22 ?_
            refine sr_callVN0_M (pc' := 52) (pla_drop_sp μ) dX8_dig_49 rfl mg_X2_drop mi_X2_drop (Or.inl ⟨2, _, TX2, 10, s88_46, rfl⟩) ⟨Nat.le_of_ble_eq_true rfl, Nat.le_of_ble_eq_true rfl⟩ w_23 (Nat.le_of_ble_eq_true rfl) (fun μ4 hμ4 => ?_)
            refine sr_aload_n (i := 0) (pc' := 53) dX8_dig_52 rfl rfl rfl ?_
            refine sr_getR (k := 0) (b := 1) (pc' := 56) cls_X8 dX8_dig_53 rfl s88_0 rfl (by decide) w_19 ?_
            refine sr_getR (k := 3) (b := 5) (pc' := 59) cls_X4 dX8_dig_56 rfl isRoad_1.1 rfl (by decide) w_117 ?_
            refine sr_iload_n (i := 1) (pc' := 60) dX8_dig_59 rfl rfl rfl ?_
            refine sr_iload_n (i := 2) (pc' := 61) dX8_dig_60 rfl rfl rfl ?_
            refine sr_callS2_I (pc' := 64) (ww_rut_sp x1 x2 μ4) dX8_dig_61 rfl mg_X8_rut ms_X8_rut ⟨Nat.le_of_ble_eq_true rfl, Nat.le_of_ble_eq_true rfl⟩ w_115 (Nat.le_of_ble_eq_true rfl) (fun u5 hu5 hcu5 hzu5 => ?_)
            refine sr_iload_n (i := 3) (pc' := 65) dX8_dig_64 rfl rfl rfl ?_
            refine sr_callS3_IM (pc' := 68) (ww_swap_sp isRoad_1.2.2.2.2.1 (by decide) u5 x3 μ4) dX8_dig_65 rfl mg_X8_swap ms_X8_swap ⟨Nat.le_of_ble_eq_true rfl, Nat.le_of_ble_eq_true rfl⟩ w_118 (Nat.le_of_ble_eq_true rfl) (fun u6 hu6 hcu6 hzu6 => ?_)
            exact sr_iretI dX8_dig_68 rfl rfl
        · refine sr_iconst (pc' := 29) dX8_dig_28 rfl (by decide) ?_
          exact sr_iretI dX8_dig_29 rfl rfl
def ww_done   (x1 : Int) (μ : Mem) : Option (Int × Mem) := (roa_hasCart 1 μ x1).bind fun u1 => if u1 = 0 then (some ((-1), μ)) else ((ww_runUpTo 60 μ).bind fun μ2 => (run_isDone μ2 x1).bind fun u3 => if u3 = 0 then (some ((-4), μ2)) else ((ww_at 41 5 μ2 x1).bind fun u4 => some (u4, μ2)))
theorem ww_done_sp {l : Launch} {G : Nv}   (x1 : Int) (μ : Mem) : SP l G S88 mX8_done [vR 0, vI x1] μ (ww_done x1 μ) jIM := by
  refine sp_go (lv := [some (vR 0), some (vI x1)]) pn_X8 (Nat.le_of_ble_eq_true rfl) rfl ?_
  unfold ww_done
  refine sr_aload_n (i := 0) (pc' := 1) dX8_done_0 rfl rfl rfl ?_
  refine sr_getR (k := 0) (b := 1) (pc' := 4) cls_X8 dX8_done_1 rfl s88_0 rfl (by decide) w_19 ?_
  refine sr_iload_n (i := 1) (pc' := 5) dX8_done_4 rfl rfl rfl ?_
  refine sr_callVN1_I (pc' := 8) (roa_hasCart_sp isRoad_1 x1 μ) dX8_done_5 rfl mg_X4_hasCart mi_X4_hasCart (Or.inl ⟨4, _, TX4, 12, isRoad_1.1, rfl⟩) ⟨Nat.le_of_ble_eq_true rfl, Nat.le_of_ble_eq_true rfl⟩ w_42 (Nat.le_of_ble_eq_true rfl) (fun u1 hu1 hcu1 hzu1 => ?_)
  refine sr_if_ne (pc' := 11) (tgt := 13) dX8_done_8 rfl rfl (fun c8 => ?_) (fun c8 => ?_)
  · refine sr_iconst (pc' := 12) dX8_done_11 rfl (by decide) ?_
    exact sr_iretI dX8_done_12 rfl rfl
  · refine sr_aload_n (i := 0) (pc' := 14) dX8_done_13 rfl rfl rfl ?_
    refine sr_bipush (pc' := 16) dX8_done_14 rfl (by decide) (by decide) ?_
    refine sr_callV1_M (pc' := 19) (ww_runUpTo_sp 60 μ) dX8_done_16 rfl mg_X8_runUpTo mi_X8_runUpTo (Or.inl ⟨8, _, TX8, 11, s88_0, rfl⟩) ⟨Nat.le_of_ble_eq_true rfl, Nat.le_of_ble_eq_true rfl⟩ w_112 (Nat.le_of_ble_eq_true rfl) (fun μ2 hμ2 => ?_)
    refine sr_aload_n (i := 0) (pc' := 20) dX8_done_19 rfl rfl rfl ?_
    refine sr_getR (k := 4) (b := 35) (pc' := 23) cls_X8 dX8_done_20 rfl s88_0 rfl (by decide) w_106 ?_
    refine sr_iload_n (i := 1) (pc' := 24) dX8_done_23 rfl rfl rfl ?_
    refine sr_callVN1_I (pc' := 27) (run_isDone_sp x1 μ2) dX8_done_24 rfl mg_X5_isDone mi_X5_isDone (Or.inl ⟨5, _, TX5, 13, s88_35, rfl⟩) ⟨Nat.le_of_ble_eq_true rfl, Nat.le_of_ble_eq_true rfl⟩ w_119 (Nat.le_of_ble_eq_true rfl) (fun u3 hu3 hcu3 hzu3 => ?_)
    refine sr_if_eq (pc' := 30) (tgt := 44) dX8_done_27 rfl rfl (fun c27 => ?_) (fun c27 => ?_)
    · refine sr_bipush (pc' := 46) dX8_done_44 rfl (by decide) (by decide) ?_
      exact sr_iretI dX8_done_46 rfl rfl
    · refine sr_aload_n (i := 0) (pc' := 31) dX8_done_30 rfl rfl rfl ?_
      refine sr_getR (k := 4) (b := 35) (pc' := 34) cls_X8 dX8_done_31 rfl s88_0 rfl (by decide) w_106 ?_
      refine sr_getRN (k := 5) (b := 41) (pc' := 37) cls_X5 dX8_done_34 rfl s88_35 rfl (by decide) w_120 ?_
      refine sr_iload_n (i := 1) (pc' := 38) dX8_done_37 rfl rfl rfl ?_
      refine sr_callS2_I (pc' := 41) (ww_at_sp s88_41 (by decide) x1 μ2) dX8_done_38 rfl mg_X8_at ms_X8_at ⟨Nat.le_of_ble_eq_true rfl, Nat.le_of_ble_eq_true rfl⟩ w_48 (Nat.le_of_ble_eq_true rfl) (fun u4 hu4 hcu4 hzu4 => ?_)
      refine sr_goto (pc' := 46) dX8_done_41 rfl ?_
      exact sr_iretI dX8_done_46 rfl rfl
def ww_end   (x1 : Int) (μ : Mem) : Option (Int × Mem) := if x1 < 0 then (some ((-1), μ)) else (if x1 ≤ (μ 25 1) then (bnd (μ 25 1) fun v1 => bnd (mset μ 25 1 x1) fun μ2 => some (v1, μ2)) else (some ((-1), μ)))
theorem ww_end_sp {l : Launch} {G : Nv}   (x1 : Int) (μ : Mem) : SP l G S88 mX8_end [vR 0, vI x1] μ (ww_end x1 μ) jIM := by
  refine sp_go (lv := [some (vR 0), some (vI x1), none]) pn_X8 (Nat.le_of_ble_eq_true rfl) rfl ?_
  unfold ww_end
  refine sr_iload_n (i := 1) (pc' := 1) dX8_end_0 rfl rfl rfl ?_
  refine sr_if_lt (pc' := 4) (tgt := 15) dX8_end_1 rfl rfl (fun c1 => ?_) (fun c1 => ?_)
  · refine sr_iconst (pc' := 16) dX8_end_15 rfl (by decide) ?_
    exact sr_iretI dX8_end_16 rfl rfl
  · refine sr_iload_n (i := 1) (pc' := 5) dX8_end_4 rfl rfl rfl ?_
    refine sr_aload_n (i := 0) (pc' := 6) dX8_end_5 rfl rfl rfl ?_
    refine sr_getR (k := 3) (b := 25) (pc' := 9) cls_X8 dX8_end_6 rfl s88_0 rfl (by decide) w_56 ?_
    refine sr_getIN (k := 1) (pc' := 12) cls_X3 dX8_end_9 rfl s88_25 rfl (by decide) w_57 ?_
    refine sr_icmp_le (pc' := 15) (tgt := 17) dX8_end_12 rfl rfl (fun c12 => ?_) (fun c12 => ?_)
    · refine sr_aload_n (i := 0) (pc' := 18) dX8_end_17 rfl rfl rfl ?_
      refine sr_getR (k := 3) (b := 25) (pc' := 21) cls_X8 dX8_end_18 rfl s88_0 rfl (by decide) w_56 ?_
      refine sr_getIN (k := 1) (pc' := 24) cls_X3 dX8_end_21 rfl s88_25 rfl (by decide) w_57 ?_
      refine sr_bnd (fun v1 hv1 => ?_)
      refine sr_istore_n (i := 2) (lv' := [some (vR 0), some (vI x1), some (vI v1)]) (pc' := 25) dX8_end_24 rfl rfl (by decide) rfl ?_
      refine sr_aload_n (i := 0) (pc' := 26) dX8_end_25 rfl rfl rfl ?_
      refine sr_getR (k := 3) (b := 25) (pc' := 29) cls_X8 dX8_end_26 rfl s88_0 rfl (by decide) w_56 ?_
      refine sr_iload_n (i := 1) (pc' := 30) dX8_end_29 rfl rfl rfl ?_
      refine sr_putIN (k := 1) (pc' := 33) cls_X3 dX8_end_30 rfl s88_25 rfl (by decide) w_57 rfl rfl (fun μ2 hμ2 => ?_)
      refine sr_iload_n (i := 2) (pc' := 34) dX8_end_33 rfl rfl rfl ?_
      exact sr_iretI dX8_end_34 rfl rfl
    · refine sr_iconst (pc' := 16) dX8_end_15 rfl (by decide) ?_
      exact sr_iretI dX8_end_16 rfl rfl
def ww_fault (μ : Mem)  : Option (Int) := some (μ 25 3)
theorem ww_fault_sp {l : Launch} {G : Nv}   (μ : Mem) : SP l G S88 mX8_fault [vR 0] μ (ww_fault μ) (jI μ) := by
  refine sp_go (lv := [some (vR 0)]) pn_X8 (Nat.le_of_ble_eq_true rfl) rfl ?_
  unfold ww_fault
  refine sr_aload_n (i := 0) (pc' := 1) dX8_fault_0 rfl rfl rfl ?_
  refine sr_getR (k := 3) (b := 25) (pc' := 4) cls_X8 dX8_fault_1 rfl s88_0 rfl (by decide) w_56 ?_
  refine sr_getIN (k := 3) (pc' := 7) cls_X3 dX8_fault_4 rfl s88_25 rfl (by decide) w_121 ?_
  exact sr_iretI dX8_fault_7 rfl rfl
def rea_append_40  (k3 : Int → Int → Mem → Option (Int × Mem)) (x1 x3 : Int) (μ : Mem) : Option (Int × Mem) := bnd (mset μ 25 1 (wI ((μ 25 1) + 1))) fun μ1 => k3 x1 (wI (x3 + (-8))) μ1
theorem rea_append_40_s {l : Launch} {G : Nv}   {k3 : Int → Int → Mem → Option (Int × Mem)} (hk3 : ∀ (x1 x3 : Int) (μ : Mem) , SR l G S88 mX3_append (k3 x1 x3 μ) jIM 3 [some (vR 25), some (vL x1), none, some (vI x3)] [] μ) : ∀ (x1 x3 : Int) (μ : Mem), SR l G S88 mX3_append (rea_append_40 k3 x1 x3 μ) jIM 40 [some (vR 25), some (vL x1), none, some (vI x3)] [] μ := by
  intro x1 x3 μ
  unfold rea_append_40
  refine sr_aload_n (i := 0) (pc' := 41) dX3_append_40 rfl rfl rfl ?_
  refine sr_dup (pc' := 42) dX3_append_41 rfl rfl ?_
  refine sr_getI (k := 1) (pc' := 45) cls_X3 dX3_append_42 rfl s88_25 rfl (by decide) w_122 ?_
  refine sr_iconst (pc' := 46) dX3_append_45 rfl (by decide) ?_
  refine sr_iadd (pc' := 47) dX3_append_46 rfl ?_
  refine sr_putI (k := 1) (pc' := 50) cls_X3 dX3_append_47 rfl s88_25 rfl (by decide) w_122 rfl rfl (fun μ1 hμ1 => ?_)
  refine sr_iinc (lv' := [some (vR 25), some (vL x1), none, some (vI (wI (x3 + (-8))))]) (pc' := 53) dX3_append_50 rfl (by decide) rfl rfl ?_
  refine sr_goto (pc' := 3) dX3_append_53 rfl ?_
  exact hk3 x1 (wI (x3 + (-8))) μ1
def rea_append_3   : Nat → Int → Int → Mem → Option (Int × Mem)
  | 0, _, _, _ => none
  | n + 1, x1, x3, μ => if x3 < 0 then (some (μ 25 1, μ)) else (if (μ 25 1) < 0 then (rea_append_40 (rea_append_3 n) x1 x3 μ) else (if 400 ≤ (μ 25 1) then (rea_append_40 (rea_append_3 n) x1 x3 μ) else ((stx μ 26 400 (μ 25 1) (bN (i2b (l2i (lShr x1 x3))))).bind fun μ1 => rea_append_40 (rea_append_3 n) x1 x3 μ1)))
theorem rea_append_3_s {l : Launch} {G : Nv}     : ∀ (n : Nat) (x1 x3 : Int) (μ : Mem), SR l G S88 mX3_append (rea_append_3 n x1 x3 μ) jIM 3 [some (vR 25), some (vL x1), none, some (vI x3)] [] μ := by
  intro n
  induction n with
  | zero => intro x1 x3 μ; exact sr_none
  | succ n ih =>
    intro x1 x3 μ
    rw [rea_append_3.eq_2]
    refine sr_iload_n (i := 3) (pc' := 4) dX3_append_3 rfl rfl rfl ?_
    refine sr_if_lt (pc' := 7) (tgt := 56) dX3_append_4 rfl rfl (fun c4 => ?_) (fun c4 => ?_)
    · refine sr_aload_n (i := 0) (pc' := 57) dX3_append_56 rfl rfl rfl ?_
      refine sr_getI (k := 1) (pc' := 60) cls_X3 dX3_append_57 rfl s88_25 rfl (by decide) w_122 ?_
      exact sr_iretI dX3_append_60 rfl rfl
    · refine sr_aload_n (i := 0) (pc' := 8) dX3_append_7 rfl rfl rfl ?_
      refine sr_getI (k := 1) (pc' := 11) cls_X3 dX3_append_8 rfl s88_25 rfl (by decide) w_122 ?_
      refine sr_if_lt (pc' := 14) (tgt := 40) dX3_append_11 rfl rfl (fun c11 => ?_) (fun c11 => ?_)
      · exact rea_append_40_s ih x1 x3 μ
      · refine sr_aload_n (i := 0) (pc' := 15) dX3_append_14 rfl rfl rfl ?_
        refine sr_getI (k := 1) (pc' := 18) cls_X3 dX3_append_15 rfl s88_25 rfl (by decide) w_122 ?_
        refine sr_aload_n (i := 0) (pc' := 19) dX3_append_18 rfl rfl rfl ?_
        refine sr_getR (k := 0) (b := 26) (pc' := 22) cls_X3 dX3_append_19 rfl s88_25 rfl (by decide) w_123 ?_
        refine sr_alen1 (pc' := 23) dX3_append_22 rfl s88_26 (by decide) ?_
        refine sr_icmp_ge (pc' := 26) (tgt := 40) dX3_append_23 rfl rfl (fun c23 => ?_) (fun c23 => ?_)
        · exact rea_append_40_s ih x1 x3 μ
        · refine sr_aload_n (i := 0) (pc' := 27) dX3_append_26 rfl rfl rfl ?_
          refine sr_getR (k := 0) (b := 26) (pc' := 30) cls_X3 dX3_append_27 rfl s88_25 rfl (by decide) w_123 ?_
          refine sr_aload_n (i := 0) (pc' := 31) dX3_append_30 rfl rfl rfl ?_
          refine sr_getI (k := 1) (pc' := 34) cls_X3 dX3_append_31 rfl s88_25 rfl (by decide) w_122 ?_
          refine sr_lload_n (i := 1) (pc' := 35) dX3_append_34 rfl rfl rfl ?_
          refine sr_iload_n (i := 3) (pc' := 36) dX3_append_35 rfl rfl rfl ?_
          refine sr_lshr (pc' := 37) dX3_append_36 rfl ?_
          refine sr_l2i (pc' := 38) dX3_append_37 rfl ?_
          refine sr_i2b (pc' := 39) dX3_append_38 rfl ?_
          refine sr_bast (pc' := 40) dX3_append_39 rfl s88_26 (by decide) (fun μ1 hμ1 hμ1a hμ1b => ?_)
          exact rea_append_40_s ih x1 x3 μ1
def rea_append   (x1 : Int) (μ : Mem) : Option (Int × Mem) := rea_append_3 BIG x1 56 μ
theorem rea_append_sp {l : Launch} {G : Nv}   (x1 : Int) (μ : Mem) : SP l G S88 mX3_append [vR 25, vL x1] μ (rea_append x1 μ) jIM := by
  refine sp_go (lv := [some (vR 25), some (vL x1), none, none]) pn_X3 (Nat.le_of_ble_eq_true rfl) rfl ?_
  unfold rea_append
  refine sr_bipush (pc' := 2) dX3_append_0 rfl (by decide) (by decide) ?_
  refine sr_istore_n (i := 3) (lv' := [some (vR 25), some (vL x1), none, some (vI 56)]) (pc' := 3) dX3_append_2 rfl rfl (by decide) rfl ?_
  exact rea_append_3_s BIG x1 56 μ
