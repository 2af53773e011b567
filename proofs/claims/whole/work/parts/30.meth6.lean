def way_find_151  (k85 : Int → Int → Int → Mem → Option (Mem)) (x4 x5 x6 x7 s0 : Int) (μ : Mem) : Option (Mem) := (ww_at 52 63 μ x6).bind fun u1 => (ww_put 52 63 x6 (iMin x7 u1) μ).bind fun μ2 => k85 s0 x4 (wI (x5 + 1)) μ2
theorem way_find_151_s {l : Launch} {G : Nv}   {k85 : Int → Int → Int → Mem → Option (Mem)} (hk85 : ∀ (x3 x4 x5 : Int) (μ : Mem) , SR l G S88 mX7_find (k85 x3 x4 x5 μ) jM 85 [some (vR 51), none, none, some (vI x3), some (vI x4), some (vI x5), none, none] [] μ) : ∀ (x4 x5 x6 x7 s0 : Int) (μ : Mem), SR l G S88 mX7_find (way_find_151 k85 x4 x5 x6 x7 s0 μ) jM 151 [some (vR 51), none, none, none, some (vI x4), some (vI x5), some (vI x6), some (vI x7)] [vI s0] μ := by
  intro x4 x5 x6 x7 s0 μ
  unfold way_find_151
  refine sr_istore_n (i := 3) (lv' := [some (vR 51), none, none, some (vI s0), some (vI x4), some (vI x5), some (vI x6), some (vI x7)]) (pc' := 152) dX7_find_151 rfl rfl (by decide) rfl ?_
  refine sr_aload_n (i := 0) (pc' := 153) dX7_find_152 rfl rfl rfl ?_
  refine sr_getR (k := 1) (b := 52) (pc' := 156) cls_X7 dX7_find_153 rfl s88_51 rfl (by decide) w_291 ?_
  refine sr_iload (pc' := 158) dX7_find_156 rfl rfl ?_
  refine sr_iload (pc' := 160) dX7_find_158 rfl rfl ?_
  refine sr_aload_n (i := 0) (pc' := 161) dX7_find_160 rfl rfl rfl ?_
  refine sr_getR (k := 1) (b := 52) (pc' := 164) cls_X7 dX7_find_161 rfl s88_51 rfl (by decide) w_291 ?_
  refine sr_iload (pc' := 166) dX7_find_164 rfl rfl ?_
  refine sr_callSN2_I (pc' := 169) (ww_at_sp s88_52 (by decide) x6 μ) dX7_find_166 rfl mg_X8_at ms_X8_at ⟨Nat.le_of_ble_eq_true rfl, Nat.le_of_ble_eq_true rfl⟩ w_35 (Nat.le_of_ble_eq_true rfl) (fun u1 hu1 hcu1 hzu1 => ?_)
  refine sr_mmin (pc' := 172) dX7_find_169 rfl w_292 (Nat.le_of_ble_eq_true rfl) (Nat.le_of_ble_eq_true rfl) (Nat.le_of_ble_eq_true rfl) ?_
  refine sr_callSN3_M (pc' := 175) (ww_put_sp s88_52 (by decide) x6 (iMin x7 u1) μ) dX7_find_172 rfl mg_X8_put ms_X8_put ⟨Nat.le_of_ble_eq_true rfl, Nat.le_of_ble_eq_true rfl⟩ w_293 (Nat.le_of_ble_eq_true rfl) (fun μ2 hμ2 => ?_)
  refine sr_iinc (lv' := [some (vR 51), none, none, some (vI s0), some (vI x4), some (vI (wI (x5 + 1))), some (vI x6), some (vI x7)]) (pc' := 178) dX7_find_175 rfl (by decide) rfl rfl ?_
  refine sr_goto (pc' := 85) dX7_find_178 rfl ?_
  refine sr_fgt (fgt_s (fgt_s (fgt_s (fgt_s (fgt_s (fgt_s (fgt_n (fgt_n fgt_nil)))))))) ?_
  exact hk85 s0 x4 (wI (x5 + 1)) μ2
def way_find_114  (k85 : Int → Int → Int → Mem → Option (Mem)) (x3 x4 x5 s0 : Int) (μ : Mem) : Option (Mem) := (way_rankBy μ s0 (iRem x5 5)).bind fun u1 => if x3 = 0 then ((ww_at 52 63 μ s0).bind fun u2 => if u2 ≤ u1 then (way_find_151 k85 x4 x5 s0 u1 0 μ) else (way_find_151 k85 x4 x5 s0 u1 1 μ)) else (way_find_151 k85 x4 x5 s0 u1 1 μ)
theorem way_find_114_s {l : Launch} {G : Nv}   {k85 : Int → Int → Int → Mem → Option (Mem)} (hk85 : ∀ (x3 x4 x5 : Int) (μ : Mem) , SR l G S88 mX7_find (k85 x3 x4 x5 μ) jM 85 [some (vR 51), none, none, some (vI x3), some (vI x4), some (vI x5), none, none] [] μ) : ∀ (x3 x4 x5 s0 : Int) (μ : Mem), SR l G S88 mX7_find (way_find_114 k85 x3 x4 x5 s0 μ) jM 114 [some (vR 51), none, none, some (vI x3), some (vI x4), some (vI x5), none, none] [vI s0] μ := by
  intro x3 x4 x5 s0 μ
  unfold way_find_114
  refine sr_istore (lv' := [some (vR 51), none, none, some (vI x3), some (vI x4), some (vI x5), some (vI s0), none]) (pc' := 116) dX7_find_114 rfl (by decide) rfl ?_
  refine sr_aload_n (i := 0) (pc' := 117) dX7_find_116 rfl rfl rfl ?_
  refine sr_iload (pc' := 119) dX7_find_117 rfl rfl ?_
  refine sr_iload (pc' := 121) dX7_find_119 rfl rfl ?_
  refine sr_iconst (pc' := 122) dX7_find_121 rfl (by decide) ?_
  refine sr_irem (pc' := 123) dX7_find_122 rfl (by decide) ?_
  refine sr_callV2_I (pc' := 126) (way_rankBy_sp s0 (iRem x5 5) μ) dX7_find_123 rfl mg_X7_rankBy mi_X7_rankBy (Or.inl ⟨7, _, TX7, 4, s88_51, rfl⟩) ⟨Nat.le_of_ble_eq_true rfl, Nat.le_of_ble_eq_true rfl⟩ w_294 (Nat.le_of_ble_eq_true rfl) (fun u1 hu1 hcu1 hzu1 => ?_)
  refine sr_istore (lv' := [some (vR 51), none, none, some (vI x3), some (vI x4), some (vI x5), some (vI s0), some (vI u1)]) (pc' := 128) dX7_find_126 rfl (by decide) rfl ?_
  refine sr_iload_n (i := 3) (pc' := 129) dX7_find_128 rfl rfl rfl ?_
  refine sr_if_ne (pc' := 132) (tgt := 146) dX7_find_129 rfl rfl (fun c129 => ?_) (fun c129 => ?_)
  · refine sr_iload (pc' := 134) dX7_find_132 rfl rfl ?_
    refine sr_aload_n (i := 0) (pc' := 135) dX7_find_134 rfl rfl rfl ?_
    refine sr_getR (k := 1) (b := 52) (pc' := 138) cls_X7 dX7_find_135 rfl s88_51 rfl (by decide) w_291 ?_
    refine sr_iload (pc' := 140) dX7_find_138 rfl rfl ?_
    refine sr_callSN2_I (pc' := 143) (ww_at_sp s88_52 (by decide) s0 μ) dX7_find_140 rfl mg_X8_at ms_X8_at ⟨Nat.le_of_ble_eq_true rfl, Nat.le_of_ble_eq_true rfl⟩ w_35 (Nat.le_of_ble_eq_true rfl) (fun u2 hu2 hcu2 hzu2 => ?_)
    refine sr_icmp_ge (pc' := 146) (tgt := 150) dX7_find_143 rfl rfl (fun c143 => ?_) (fun c143 => ?_)
    · refine sr_iconst (pc' := 151) dX7_find_150 rfl (by decide) ?_
      refine sr_fgt (fgt_s (fgt_s (fgt_s (fgt_n (fgt_s (fgt_s (fgt_s (fgt_s fgt_nil)))))))) ?_
      exact way_find_151_s hk85 x4 x5 s0 u1 0 μ
    · refine sr_iconst (pc' := 147) dX7_find_146 rfl (by decide) ?_
      refine sr_goto (pc' := 151) dX7_find_147 rfl ?_
      refine sr_fgt (fgt_s (fgt_s (fgt_s (fgt_n (fgt_s (fgt_s (fgt_s (fgt_s fgt_nil)))))))) ?_
      exact way_find_151_s hk85 x4 x5 s0 u1 1 μ
  · refine sr_iconst (pc' := 147) dX7_find_146 rfl (by decide) ?_
    refine sr_goto (pc' := 151) dX7_find_147 rfl ?_
    refine sr_fgt (fgt_s (fgt_s (fgt_s (fgt_n (fgt_s (fgt_s (fgt_s (fgt_s fgt_nil)))))))) ?_
    exact way_find_151_s hk85 x4 x5 s0 u1 1 μ
def way_find_85  (k69 : Int → Int → Mem → Option (Mem)) : Nat → Int → Int → Int → Mem → Option (Mem)
  | 0, _, _, _, _ => none
  | n + 1, x3, x4, x5, μ => if 315 ≤ x5 then (k69 x3 (wI (x4 + 1)) μ) else (if (iRem x4 2) = 0 then (way_find_114 (way_find_85 k69 n) x3 x4 x5 (iDiv x5 5) μ) else (way_find_114 (way_find_85 k69 n) x3 x4 x5 (wI (62 - (iDiv x5 5))) μ))
theorem way_find_85_s {l : Launch} {G : Nv}   {k69 : Int → Int → Mem → Option (Mem)} (hk69 : ∀ (x3 x4 : Int) (μ : Mem) , SR l G S88 mX7_find (k69 x3 x4 μ) jM 69 [some (vR 51), none, none, some (vI x3), some (vI x4), none, none, none] [] μ) : ∀ (n : Nat) (x3 x4 x5 : Int) (μ : Mem), SR l G S88 mX7_find (way_find_85 k69 n x3 x4 x5 μ) jM 85 [some (vR 51), none, none, some (vI x3), some (vI x4), some (vI x5), none, none] [] μ := by
  intro n
  induction n with
  | zero => intro x3 x4 x5 μ; exact sr_none
  | succ n ih =>
    intro x3 x4 x5 μ
    rw [way_find_85.eq_2]
    refine sr_iload (pc' := 87) dX7_find_85 rfl rfl ?_
    refine sr_sipush (pc' := 90) dX7_find_87 rfl (by decide) (by decide) ?_
    refine sr_icmp_ge (pc' := 93) (tgt := 181) dX7_find_90 rfl rfl (fun c90 => ?_) (fun c90 => ?_)
    · refine sr_iinc (lv' := [some (vR 51), none, none, some (vI x3), some (vI (wI (x4 + 1))), some (vI x5), none, none]) (pc' := 184) dX7_find_181 rfl (by decide) rfl rfl ?_
      refine sr_goto (pc' := 69) dX7_find_184 rfl ?_
      refine sr_fgt (fgt_s (fgt_s (fgt_s (fgt_s (fgt_s (fgt_n (fgt_s (fgt_s fgt_nil)))))))) ?_
      exact hk69 x3 (wI (x4 + 1)) μ
    · refine sr_iload (pc' := 95) dX7_find_93 rfl rfl ?_
      refine sr_iconst (pc' := 96) dX7_find_95 rfl (by decide) ?_
      refine sr_irem (pc' := 97) dX7_find_96 rfl (by decide) ?_
      refine sr_if_ne (pc' := 100) (tgt := 107) dX7_find_97 rfl rfl (fun c97 => ?_) (fun c97 => ?_)
      · refine sr_iload (pc' := 102) dX7_find_100 rfl rfl ?_
        refine sr_iconst (pc' := 103) dX7_find_102 rfl (by decide) ?_
        refine sr_idiv (pc' := 104) dX7_find_103 rfl (by decide) ?_
        refine sr_goto (pc' := 114) dX7_find_104 rfl ?_
        exact way_find_114_s ih x3 x4 x5 (iDiv x5 5) μ
      · refine sr_bipush (pc' := 109) dX7_find_107 rfl (by decide) (by decide) ?_
        refine sr_iload (pc' := 111) dX7_find_109 rfl rfl ?_
        refine sr_iconst (pc' := 112) dX7_find_111 rfl (by decide) ?_
        refine sr_idiv (pc' := 113) dX7_find_112 rfl (by decide) ?_
        refine sr_isub (pc' := 114) dX7_find_113 rfl ?_
        exact way_find_114_s ih x3 x4 x5 (wI (62 - (iDiv x5 5))) μ
def way_find_69   : Nat → Int → Int → Mem → Option (Mem)
  | 0, _, _, _ => none
  | n + 1, x3, x4, μ => if x3 = 0 then (some μ) else (if 63 < x4 then (some μ) else (way_find_85 (way_find_69 n) BIG 0 x4 0 μ))
theorem way_find_69_s {l : Launch} {G : Nv}     : ∀ (n : Nat) (x3 x4 : Int) (μ : Mem), SR l G S88 mX7_find (way_find_69 n x3 x4 μ) jM 69 [some (vR 51), none, none, some (vI x3), some (vI x4), none, none, none] [] μ := by
  intro n
  induction n with
  | zero => intro x3 x4 μ; exact sr_none
  | succ n ih =>
    intro x3 x4 μ
    rw [way_find_69.eq_2]
    refine sr_iload_n (i := 3) (pc' := 70) dX7_find_69 rfl rfl rfl ?_
    refine sr_if_eq (pc' := 73) (tgt := 187) dX7_find_70 rfl rfl (fun c70 => ?_) (fun c70 => ?_)
    · exact sr_ret dX7_find_187 rfl rfl
    · refine sr_iload (pc' := 75) dX7_find_73 rfl rfl ?_
      refine sr_bipush (pc' := 77) dX7_find_75 rfl (by decide) (by decide) ?_
      refine sr_icmp_gt (pc' := 80) (tgt := 187) dX7_find_77 rfl rfl (fun c77 => ?_) (fun c77 => ?_)
      · exact sr_ret dX7_find_187 rfl rfl
      · refine sr_iconst (pc' := 81) dX7_find_80 rfl (by decide) ?_
        refine sr_istore_n (i := 3) (lv' := [some (vR 51), none, none, some (vI 0), some (vI x4), none, none, none]) (pc' := 82) dX7_find_81 rfl rfl (by decide) rfl ?_
        refine sr_iconst (pc' := 83) dX7_find_82 rfl (by decide) ?_
        refine sr_istore (lv' := [some (vR 51), none, none, some (vI 0), some (vI x4), some (vI 0), none, none]) (pc' := 85) dX7_find_83 rfl (by decide) rfl ?_
        exact way_find_85_s ih BIG 0 x4 0 μ
def way_find_29   : Nat → Int → Mem → Option (Mem)
  | 0, _, _ => none
  | n + 1, x3, μ => if 3 ≤ x3 then (way_find_69 BIG 1 0 μ) else ((roa_part 1 μ (μ 51 2) 5).bind fun u1 => (ww_rut μ u1 x3).bind fun u2 => (ww_put 52 63 u2 0 μ).bind fun μ3 => way_find_29 n (wI (x3 + 1)) μ3)
theorem way_find_29_s {l : Launch} {G : Nv}     : ∀ (n : Nat) (x3 : Int) (μ : Mem), SR l G S88 mX7_find (way_find_29 n x3 μ) jM 29 [some (vR 51), none, none, some (vI x3), none, none, none, none] [] μ := by
  intro n
  induction n with
  | zero => intro x3 μ; exact sr_none
  | succ n ih =>
    intro x3 μ
    rw [way_find_29.eq_2]
    refine sr_iload_n (i := 3) (pc' := 30) dX7_find_29 rfl rfl rfl ?_
    refine sr_iconst (pc' := 31) dX7_find_30 rfl (by decide) ?_
    refine sr_icmp_ge (pc' := 34) (tgt := 64) dX7_find_31 rfl rfl (fun c31 => ?_) (fun c31 => ?_)
    · refine sr_iconst (pc' := 65) dX7_find_64 rfl (by decide) ?_
      refine sr_istore_n (i := 3) (lv' := [some (vR 51), none, none, some (vI 1), none, none, none, none]) (pc' := 66) dX7_find_65 rfl rfl (by decide) rfl ?_
      refine sr_iconst (pc' := 67) dX7_find_66 rfl (by decide) ?_
      refine sr_istore (lv' := [some (vR 51), none, none, some (vI 1), some (vI 0), none, none, none]) (pc' := 69) dX7_find_67 rfl (by decide) rfl ?_
      exact way_find_69_s BIG 1 0 μ
    · refine sr_aload_n (i := 0) (pc' := 35) dX7_find_34 rfl rfl rfl ?_
      refine sr_getR (k := 1) (b := 52) (pc' := 38) cls_X7 dX7_find_35 rfl s88_51 rfl (by decide) w_291 ?_
      refine sr_aload_n (i := 0) (pc' := 39) dX7_find_38 rfl rfl rfl ?_
      refine sr_getR (k := 0) (b := 1) (pc' := 42) cls_X7 dX7_find_39 rfl s88_51 rfl (by decide) w_25 ?_
      refine sr_aload_n (i := 0) (pc' := 43) dX7_find_42 rfl rfl rfl ?_
      refine sr_getI (k := 2) (pc' := 46) cls_X7 dX7_find_43 rfl s88_51 rfl (by decide) w_26 ?_
      refine sr_iconst (pc' := 47) dX7_find_46 rfl (by decide) ?_
      refine sr_callVN2_I (pc' := 50) (roa_part_sp isRoad_1 (μ 51 2) 5 μ) dX7_find_47 rfl mg_X4_part mi_X4_part (Or.inl ⟨4, _, TX4, 12, isRoad_1.1, rfl⟩) ⟨Nat.le_of_ble_eq_true rfl, Nat.le_of_ble_eq_true rfl⟩ w_27 (Nat.le_of_ble_eq_true rfl) (fun u1 hu1 hcu1 hzu1 => ?_)
      refine sr_iload_n (i := 3) (pc' := 51) dX7_find_50 rfl rfl rfl ?_
      refine sr_callSN2_I (pc' := 54) (ww_rut_sp u1 x3 μ) dX7_find_51 rfl mg_X8_rut ms_X8_rut ⟨Nat.le_of_ble_eq_true rfl, Nat.le_of_ble_eq_true rfl⟩ w_28 (Nat.le_of_ble_eq_true rfl) (fun u2 hu2 hcu2 hzu2 => ?_)
      refine sr_iconst (pc' := 55) dX7_find_54 rfl (by decide) ?_
      refine sr_callSN3_M (pc' := 58) (ww_put_sp s88_52 (by decide) u2 0 μ) dX7_find_55 rfl mg_X8_put ms_X8_put ⟨Nat.le_of_ble_eq_true rfl, Nat.le_of_ble_eq_true rfl⟩ w_293 (Nat.le_of_ble_eq_true rfl) (fun μ3 hμ3 => ?_)
      refine sr_iinc (lv' := [some (vR 51), none, none, some (vI (wI (x3 + 1))), none, none, none, none]) (pc' := 61) dX7_find_58 rfl (by decide) rfl rfl ?_
      refine sr_goto (pc' := 29) dX7_find_61 rfl ?_
      exact ih (wI (x3 + 1)) μ3
def way_find_15   (s1 : Int) (μ : Mem) : Option (Mem) := bnd (mset μ 51 3 s1) fun μ1 => (ww_wipe 52 63 2000000000 μ1).bind fun μ2 => way_find_29 BIG 0 μ2
theorem way_find_15_s {l : Launch} {G : Nv}     : ∀ (s1 : Int) (μ : Mem) (hz_s1 : s1 = 0 ∨ s1 = 1), SR l G S88 mX7_find (way_find_15 s1 μ) jM 15 [some (vR 51), none, none, none, none, none, none, none] [vI s1, vR 51] μ := by
  intro s1 μ hz_s1
  unfold way_find_15
  refine sr_putZ (k := 3) (pc' := 18) cls_X7 dX7_find_15 rfl s88_51 rfl (by decide) w_287 rfl rfl (hz_s1) (fun μ1 hμ1 => ?_)
  refine sr_aload_n (i := 0) (pc' := 19) dX7_find_18 rfl rfl rfl ?_
  refine sr_getR (k := 1) (b := 52) (pc' := 22) cls_X7 dX7_find_19 rfl s88_51 rfl (by decide) w_291 ?_
  refine sr_ldc (x := 2000000000) (pc' := 24) dX7_find_22 rfl (by decide) w_289 ?_
  refine sr_callSN2_M (pc' := 27) (ww_wipe_sp s88_52 (by decide) 2000000000 μ1) dX7_find_24 rfl mg_X8_wipe ms_X8_wipe ⟨Nat.le_of_ble_eq_true rfl, Nat.le_of_ble_eq_true rfl⟩ w_295 (Nat.le_of_ble_eq_true rfl) (fun μ2 hμ2 => ?_)
  refine sr_iconst (pc' := 28) dX7_find_27 rfl (by decide) ?_
  refine sr_istore_n (i := 3) (lv' := [some (vR 51), none, none, some (vI 0), none, none, none, none]) (pc' := 29) dX7_find_28 rfl rfl (by decide) rfl ?_
  exact way_find_29_s BIG 0 μ2
def way_find   (x1 x2 : Int) (μ : Mem) : Option (Mem) := bnd (mset μ 51 2 x1) fun μ1 => if x2 = 0 then (way_find_15 1 μ1) else (way_find_15 0 μ1)
theorem way_find_sp {l : Launch} {G : Nv}   (x1 x2 : Int) (μ : Mem) : SP l G S88 mX7_find [vR 51, vI x1, vI x2] μ (way_find x1 x2 μ) jM := by
  refine sp_go (lv := [some (vR 51), some (vI x1), some (vI x2), none, none, none, none, none]) pn_X7 (Nat.le_of_ble_eq_true rfl) rfl ?_
  unfold way_find
  refine sr_aload_n (i := 0) (pc' := 1) dX7_find_0 rfl rfl rfl ?_
  refine sr_iload_n (i := 1) (pc' := 2) dX7_find_1 rfl rfl rfl ?_
  refine sr_putI (k := 2) (pc' := 5) cls_X7 dX7_find_2 rfl s88_51 rfl (by decide) w_26 rfl rfl (fun μ1 hμ1 => ?_)
  refine sr_aload_n (i := 0) (pc' := 6) dX7_find_5 rfl rfl rfl ?_
  refine sr_iload_n (i := 2) (pc' := 7) dX7_find_6 rfl rfl rfl ?_
  refine sr_if_ne (pc' := 10) (tgt := 14) dX7_find_7 rfl rfl (fun c7 => ?_) (fun c7 => ?_)
  · refine sr_iconst (pc' := 11) dX7_find_10 rfl (by decide) ?_
    refine sr_goto (pc' := 15) dX7_find_11 rfl ?_
    refine sr_fgt (fgt_s (fgt_n (fgt_n (fgt_s (fgt_s (fgt_s (fgt_s (fgt_s fgt_nil)))))))) ?_
    exact way_find_15_s 1 μ1 (Or.inr rfl)
  · refine sr_iconst (pc' := 15) dX7_find_14 rfl (by decide) ?_
    refine sr_fgt (fgt_s (fgt_n (fgt_n (fgt_s (fgt_s (fgt_s (fgt_s (fgt_s fgt_nil)))))))) ?_
    exact way_find_15_s 0 μ1 (Or.inl rfl)
def way_isFound (μ : Mem)  : Option (Int) := (way_begin μ).bind fun u1 => (ww_at 52 63 μ u1).bind fun u2 => if 2000000000 ≤ u2 then (some 0) else (some 1)
theorem way_isFound_sp {l : Launch} {G : Nv}   (μ : Mem) : SP l G S88 mX7_isFound [vR 51] μ (way_isFound μ) (jI μ) := by
  refine sp_go (lv := [some (vR 51)]) pn_X7 (Nat.le_of_ble_eq_true rfl) rfl ?_
  unfold way_isFound
  refine sr_aload_n (i := 0) (pc' := 1) dX7_isFound_0 rfl rfl rfl ?_
  refine sr_getR (k := 1) (b := 52) (pc' := 4) cls_X7 dX7_isFound_1 rfl s88_51 rfl (by decide) w_291 ?_
  refine sr_aload_n (i := 0) (pc' := 5) dX7_isFound_4 rfl rfl rfl ?_
  refine sr_callV0_I (pc' := 8) (way_begin_sp μ) dX7_isFound_5 rfl mg_X7_begin mi_X7_begin (Or.inl ⟨7, _, TX7, 4, s88_51, rfl⟩) ⟨Nat.le_of_ble_eq_true rfl, Nat.le_of_ble_eq_true rfl⟩ w_41 (Nat.le_of_ble_eq_true rfl) (fun u1 hu1 hcu1 hzu1 => ?_)
  refine sr_callSN2_I (pc' := 11) (ww_at_sp s88_52 (by decide) u1 μ) dX7_isFound_8 rfl mg_X8_at ms_X8_at ⟨Nat.le_of_ble_eq_true rfl, Nat.le_of_ble_eq_true rfl⟩ w_35 (Nat.le_of_ble_eq_true rfl) (fun u2 hu2 hcu2 hzu2 => ?_)
  refine sr_ldc (x := 2000000000) (pc' := 13) dX7_isFound_11 rfl (by decide) w_289 ?_
  refine sr_icmp_ge (pc' := 16) (tgt := 20) dX7_isFound_13 rfl rfl (fun c13 => ?_) (fun c13 => ?_)
  · refine sr_iconst (pc' := 21) dX7_isFound_20 rfl (by decide) ?_
    exact sr_iretZ dX7_isFound_21 rfl (Or.inl rfl) rfl
  · refine sr_iconst (pc' := 17) dX7_isFound_16 rfl (by decide) ?_
    refine sr_goto (pc' := 21) dX7_isFound_17 rfl ?_
    exact sr_iretZ dX7_isFound_21 rfl (Or.inr rfl) rfl
def way_first (μ : Mem)  : Option (Int) := (way_begin μ).bind fun u1 => (ww_at 52 63 μ u1).bind fun u2 => some (iDiv (iDiv u2 1000) 1000)
theorem way_first_sp {l : Launch} {G : Nv}   (μ : Mem) : SP l G S88 mX7_first [vR 51] μ (way_first μ) (jI μ) := by
  refine sp_go (lv := [some (vR 51)]) pn_X7 (Nat.le_of_ble_eq_true rfl) rfl ?_
  unfold way_first
  refine sr_aload_n (i := 0) (pc' := 1) dX7_first_0 rfl rfl rfl ?_
  refine sr_getR (k := 1) (b := 52) (pc' := 4) cls_X7 dX7_first_1 rfl s88_51 rfl (by decide) w_291 ?_
  refine sr_aload_n (i := 0) (pc' := 5) dX7_first_4 rfl rfl rfl ?_
  refine sr_callV0_I (pc' := 8) (way_begin_sp μ) dX7_first_5 rfl mg_X7_begin mi_X7_begin (Or.inl ⟨7, _, TX7, 4, s88_51, rfl⟩) ⟨Nat.le_of_ble_eq_true rfl, Nat.le_of_ble_eq_true rfl⟩ w_41 (Nat.le_of_ble_eq_true rfl) (fun u1 hu1 hcu1 hzu1 => ?_)
  refine sr_callSN2_I (pc' := 11) (ww_at_sp s88_52 (by decide) u1 μ) dX7_first_8 rfl mg_X8_at ms_X8_at ⟨Nat.le_of_ble_eq_true rfl, Nat.le_of_ble_eq_true rfl⟩ w_35 (Nat.le_of_ble_eq_true rfl) (fun u2 hu2 hcu2 hzu2 => ?_)
  refine sr_sipush (pc' := 14) dX7_first_11 rfl (by decide) (by decide) ?_
  refine sr_idiv (pc' := 15) dX7_first_14 rfl (by decide) ?_
  refine sr_sipush (pc' := 18) dX7_first_15 rfl (by decide) (by decide) ?_
  refine sr_idiv (pc' := 19) dX7_first_18 rfl (by decide) ?_
  exact sr_iretI dX7_first_19 rfl rfl
def way_second (μ : Mem)  : Option (Int) := (way_begin μ).bind fun u1 => (ww_at 52 63 μ u1).bind fun u2 => some (iRem (iDiv u2 1000) 1000)
theorem way_second_sp {l : Launch} {G : Nv}   (μ : Mem) : SP l G S88 mX7_second [vR 51] μ (way_second μ) (jI μ) := by
  refine sp_go (lv := [some (vR 51)]) pn_X7 (Nat.le_of_ble_eq_true rfl) rfl ?_
  unfold way_second
  refine sr_aload_n (i := 0) (pc' := 1) dX7_second_0 rfl rfl rfl ?_
  refine sr_getR (k := 1) (b := 52) (pc' := 4) cls_X7 dX7_second_1 rfl s88_51 rfl (by decide) w_291 ?_
  refine sr_aload_n (i := 0) (pc' := 5) dX7_second_4 rfl rfl rfl ?_
  refine sr_callV0_I (pc' := 8) (way_begin_sp μ) dX7_second_5 rfl mg_X7_begin mi_X7_begin (Or.inl ⟨7, _, TX7, 4, s88_51, rfl⟩) ⟨Nat.le_of_ble_eq_true rfl, Nat.le_of_ble_eq_true rfl⟩ w_41 (Nat.le_of_ble_eq_true rfl) (fun u1 hu1 hcu1 hzu1 => ?_)
  refine sr_callSN2_I (pc' := 11) (ww_at_sp s88_52 (by decide) u1 μ) dX7_second_8 rfl mg_X8_at ms_X8_at ⟨Nat.le_of_ble_eq_true rfl, Nat.le_of_ble_eq_true rfl⟩ w_35 (Nat.le_of_ble_eq_true rfl) (fun u2 hu2 hcu2 hzu2 => ?_)
  refine sr_sipush (pc' := 14) dX7_second_11 rfl (by decide) (by decide) ?_
  refine sr_idiv (pc' := 15) dX7_second_14 rfl (by decide) ?_
  refine sr_sipush (pc' := 18) dX7_second_15 rfl (by decide) (by decide) ?_
  refine sr_irem (pc' := 19) dX7_second_18 rfl (by decide) ?_
  exact sr_iretI dX7_second_19 rfl rfl
def way_money (μ : Mem)  : Option (Int) := if (μ 51 3) = 0 then ((way_second μ).bind fun u1 => some u1) else ((way_first μ).bind fun u2 => some u2)
theorem way_money_sp {l : Launch} {G : Nv}   (μ : Mem) : SP l G S88 mX7_money [vR 51] μ (way_money μ) (jI μ) := by
  refine sp_go (lv := [some (vR 51)]) pn_X7 (Nat.le_of_ble_eq_true rfl) rfl ?_
  unfold way_money
  refine sr_aload_n (i := 0) (pc' := 1) dX7_money_0 rfl rfl rfl ?_
  refine sr_getZ (k := 3) (pc' := 4) cls_X7 dX7_money_1 rfl s88_51 rfl (by decide) w_287 ?_
  refine sr_if_eq (pc' := 7) (tgt := 14) dX7_money_4 rfl rfl (fun c4 => ?_) (fun c4 => ?_)
  · refine sr_aload_n (i := 0) (pc' := 15) dX7_money_14 rfl rfl rfl ?_
    refine sr_callV0_I (pc' := 18) (way_second_sp μ) dX7_money_15 rfl mg_X7_second mi_X7_second (Or.inl ⟨7, _, TX7, 4, s88_51, rfl⟩) ⟨Nat.le_of_ble_eq_true rfl, Nat.le_of_ble_eq_true rfl⟩ w_296 (Nat.le_of_ble_eq_true rfl) (fun u1 hu1 hcu1 hzu1 => ?_)
    exact sr_iretI dX7_money_18 rfl rfl
  · refine sr_aload_n (i := 0) (pc' := 8) dX7_money_7 rfl rfl rfl ?_
    refine sr_callV0_I (pc' := 11) (way_first_sp μ) dX7_money_8 rfl mg_X7_first mi_X7_first (Or.inl ⟨7, _, TX7, 4, s88_51, rfl⟩) ⟨Nat.le_of_ble_eq_true rfl, Nat.le_of_ble_eq_true rfl⟩ w_297 (Nat.le_of_ble_eq_true rfl) (fun u2 hu2 hcu2 hzu2 => ?_)
    refine sr_goto (pc' := 18) dX7_money_11 rfl ?_
    exact sr_iretI dX7_money_18 rfl rfl
def way_hours (μ : Mem)  : Option (Int) := if (μ 51 3) = 0 then ((way_first μ).bind fun u1 => some u1) else ((way_second μ).bind fun u2 => some u2)
theorem way_hours_sp {l : Launch} {G : Nv}   (μ : Mem) : SP l G S88 mX7_hours [vR 51] μ (way_hours μ) (jI μ) := by
  refine sp_go (lv := [some (vR 51)]) pn_X7 (Nat.le_of_ble_eq_true rfl) rfl ?_
  unfold way_hours
  refine sr_aload_n (i := 0) (pc' := 1) dX7_hours_0 rfl rfl rfl ?_
  refine sr_getZ (k := 3) (pc' := 4) cls_X7 dX7_hours_1 rfl s88_51 rfl (by decide) w_287 ?_
  refine sr_if_eq (pc' := 7) (tgt := 14) dX7_hours_4 rfl rfl (fun c4 => ?_) (fun c4 => ?_)
  · refine sr_aload_n (i := 0) (pc' := 15) dX7_hours_14 rfl rfl rfl ?_
    refine sr_callV0_I (pc' := 18) (way_first_sp μ) dX7_hours_15 rfl mg_X7_first mi_X7_first (Or.inl ⟨7, _, TX7, 4, s88_51, rfl⟩) ⟨Nat.le_of_ble_eq_true rfl, Nat.le_of_ble_eq_true rfl⟩ w_297 (Nat.le_of_ble_eq_true rfl) (fun u1 hu1 hcu1 hzu1 => ?_)
    exact sr_iretI dX7_hours_18 rfl rfl
  · refine sr_aload_n (i := 0) (pc' := 8) dX7_hours_7 rfl rfl rfl ?_
    refine sr_callV0_I (pc' := 11) (way_second_sp μ) dX7_hours_8 rfl mg_X7_second mi_X7_second (Or.inl ⟨7, _, TX7, 4, s88_51, rfl⟩) ⟨Nat.le_of_ble_eq_true rfl, Nat.le_of_ble_eq_true rfl⟩ w_296 (Nat.le_of_ble_eq_true rfl) (fun u2 hu2 hcu2 hzu2 => ?_)
    refine sr_goto (pc' := 18) dX7_hours_11 rfl ?_
    exact sr_iretI dX7_hours_18 rfl rfl
def way_acts (μ : Mem)  : Option (Int) := (way_begin μ).bind fun u1 => (ww_at 52 63 μ u1).bind fun u2 => some (iRem u2 1000)
theorem way_acts_sp {l : Launch} {G : Nv}   (μ : Mem) : SP l G S88 mX7_acts [vR 51] μ (way_acts μ) (jI μ) := by
  refine sp_go (lv := [some (vR 51)]) pn_X7 (Nat.le_of_ble_eq_true rfl) rfl ?_
  unfold way_acts
  refine sr_aload_n (i := 0) (pc' := 1) dX7_acts_0 rfl rfl rfl ?_
  refine sr_getR (k := 1) (b := 52) (pc' := 4) cls_X7 dX7_acts_1 rfl s88_51 rfl (by decide) w_291 ?_
  refine sr_aload_n (i := 0) (pc' := 5) dX7_acts_4 rfl rfl rfl ?_
  refine sr_callV0_I (pc' := 8) (way_begin_sp μ) dX7_acts_5 rfl mg_X7_begin mi_X7_begin (Or.inl ⟨7, _, TX7, 4, s88_51, rfl⟩) ⟨Nat.le_of_ble_eq_true rfl, Nat.le_of_ble_eq_true rfl⟩ w_41 (Nat.le_of_ble_eq_true rfl) (fun u1 hu1 hcu1 hzu1 => ?_)
  refine sr_callSN2_I (pc' := 11) (ww_at_sp s88_52 (by decide) u1 μ) dX7_acts_8 rfl mg_X8_at ms_X8_at ⟨Nat.le_of_ble_eq_true rfl, Nat.le_of_ble_eq_true rfl⟩ w_35 (Nat.le_of_ble_eq_true rfl) (fun u2 hu2 hcu2 hzu2 => ?_)
  refine sr_sipush (pc' := 14) dX7_acts_11 rfl (by decide) (by decide) ?_
  refine sr_irem (pc' := 15) dX7_acts_14 rfl (by decide) ?_
  exact sr_iretI dX7_acts_15 rfl rfl
def way_bestAct_2 (μ : Mem)  : Nat → Int → Int → Option (Int)
  | 0, _, _ => none
  | n + 1, x1, x2 => if 5 ≤ x2 then (some (-4)) else ((way_rankBy μ x1 x2).bind fun u1 => (ww_at 52 63 μ x1).bind fun u2 => if u1 = u2 then (some x2) else (way_bestAct_2 μ n x1 (wI (x2 + 1))))
theorem way_bestAct_2_s {l : Launch} {G : Nv}   (μ : Mem)   : ∀ (n : Nat) (x1 x2 : Int), SR l G S88 mX7_bestAct (way_bestAct_2 μ n x1 x2) (jI μ) 2 [some (vR 51), some (vI x1), some (vI x2)] [] μ := by
  intro n
  induction n with
  | zero => intro x1 x2; exact sr_none
  | succ n ih =>
    intro x1 x2
    rw [way_bestAct_2.eq_2]
    refine sr_iload_n (i := 2) (pc' := 3) dX7_bestAct_2 rfl rfl rfl ?_
    refine sr_iconst (pc' := 4) dX7_bestAct_3 rfl (by decide) ?_
    refine sr_icmp_ge (pc' := 7) (tgt := 32) dX7_bestAct_4 rfl rfl (fun c4 => ?_) (fun c4 => ?_)
    · refine sr_bipush (pc' := 34) dX7_bestAct_32 rfl (by decide) (by decide) ?_
      exact sr_iretI dX7_bestAct_34 rfl rfl
    · refine sr_aload_n (i := 0) (pc' := 8) dX7_bestAct_7 rfl rfl rfl ?_
      refine sr_iload_n (i := 1) (pc' := 9) dX7_bestAct_8 rfl rfl rfl ?_
      refine sr_iload_n (i := 2) (pc' := 10) dX7_bestAct_9 rfl rfl rfl ?_
      refine sr_callV2_I (pc' := 13) (way_rankBy_sp x1 x2 μ) dX7_bestAct_10 rfl mg_X7_rankBy mi_X7_rankBy (Or.inl ⟨7, _, TX7, 4, s88_51, rfl⟩) ⟨Nat.le_of_ble_eq_true rfl, Nat.le_of_ble_eq_true rfl⟩ w_294 (Nat.le_of_ble_eq_true rfl) (fun u1 hu1 hcu1 hzu1 => ?_)
      refine sr_aload_n (i := 0) (pc' := 14) dX7_bestAct_13 rfl rfl rfl ?_
      refine sr_getR (k := 1) (b := 52) (pc' := 17) cls_X7 dX7_bestAct_14 rfl s88_51 rfl (by decide) w_291 ?_
      refine sr_iload_n (i := 1) (pc' := 18) dX7_bestAct_17 rfl rfl rfl ?_
      refine sr_callSN2_I (pc' := 21) (ww_at_sp s88_52 (by decide) x1 μ) dX7_bestAct_18 rfl mg_X8_at ms_X8_at ⟨Nat.le_of_ble_eq_true rfl, Nat.le_of_ble_eq_true rfl⟩ w_35 (Nat.le_of_ble_eq_true rfl) (fun u2 hu2 hcu2 hzu2 => ?_)
      refine sr_icmp_ne (pc' := 24) (tgt := 26) dX7_bestAct_21 rfl rfl (fun c21 => ?_) (fun c21 => ?_)
      · refine sr_iload_n (i := 2) (pc' := 25) dX7_bestAct_24 rfl rfl rfl ?_
        exact sr_iretI dX7_bestAct_25 rfl rfl
      · refine sr_iinc (lv' := [some (vR 51), some (vI x1), some (vI (wI (x2 + 1)))]) (pc' := 29) dX7_bestAct_26 rfl (by decide) rfl rfl ?_
        refine sr_goto (pc' := 2) dX7_bestAct_29 rfl ?_
        exact ih x1 (wI (x2 + 1))
def way_bestAct (μ : Mem)  (x1 : Int) : Option (Int) := way_bestAct_2 μ BIG x1 0
theorem way_bestAct_sp {l : Launch} {G : Nv}   (x1 : Int) (μ : Mem) : SP l G S88 mX7_bestAct [vR 51, vI x1] μ (way_bestAct μ x1) (jI μ) := by
  refine sp_go (lv := [some (vR 51), some (vI x1), none]) pn_X7 (Nat.le_of_ble_eq_true rfl) rfl ?_
  unfold way_bestAct
  refine sr_iconst (pc' := 1) dX7_bestAct_0 rfl (by decide) ?_
  refine sr_istore_n (i := 2) (lv' := [some (vR 51), some (vI x1), some (vI 0)]) (pc' := 2) dX7_bestAct_1 rfl rfl (by decide) rfl ?_
  exact way_bestAct_2_s μ BIG x1 0
def way_actAt_18 (μ : Mem)  : Nat → Int → Int → Int → Option (Int)
  | 0, _, _, _ => none
  | n + 1, x1, x2, x3 => if x1 ≤ x3 then ((way_bestAct μ x2).bind fun u1 => some u1) else ((way_bestAct μ x2).bind fun u2 => (way_standBehind μ x2 u2).bind fun u3 => way_actAt_18 μ n x1 u3 (wI (x3 + 1)))
theorem way_actAt_18_s {l : Launch} {G : Nv}   (μ : Mem)   : ∀ (n : Nat) (x1 x2 x3 : Int), SR l G S88 mX7_actAt (way_actAt_18 μ n x1 x2 x3) (jI μ) 18 [some (vR 51), some (vI x1), some (vI x2), some (vI x3)] [] μ := by
  intro n
  induction n with
  | zero => intro x1 x2 x3; exact sr_none
  | succ n ih =>
    intro x1 x2 x3
    rw [way_actAt_18.eq_2]
    refine sr_iload_n (i := 3) (pc' := 19) dX7_actAt_18 rfl rfl rfl ?_
    refine sr_iload_n (i := 1) (pc' := 20) dX7_actAt_19 rfl rfl rfl ?_
    refine sr_icmp_ge (pc' := 23) (tgt := 40) dX7_actAt_20 rfl rfl (fun c20 => ?_) (fun c20 => ?_)
    · refine sr_aload_n (i := 0) (pc' := 41) dX7_actAt_40 rfl rfl rfl ?_
      refine sr_iload_n (i := 2) (pc' := 42) dX7_actAt_41 rfl rfl rfl ?_
      refine sr_callV1_I (pc' := 45) (way_bestAct_sp x2 μ) dX7_actAt_42 rfl mg_X7_bestAct mi_X7_bestAct (Or.inl ⟨7, _, TX7, 4, s88_51, rfl⟩) ⟨Nat.le_of_ble_eq_true rfl, Nat.le_of_ble_eq_true rfl⟩ w_298 (Nat.le_of_ble_eq_true rfl) (fun u1 hu1 hcu1 hzu1 => ?_)
      exact sr_iretI dX7_actAt_45 rfl rfl
    · refine sr_aload_n (i := 0) (pc' := 24) dX7_actAt_23 rfl rfl rfl ?_
      refine sr_iload_n (i := 2) (pc' := 25) dX7_actAt_24 rfl rfl rfl ?_
      refine sr_aload_n (i := 0) (pc' := 26) dX7_actAt_25 rfl rfl rfl ?_
      refine sr_iload_n (i := 2) (pc' := 27) dX7_actAt_26 rfl rfl rfl ?_
      refine sr_callV1_I (pc' := 30) (way_bestAct_sp x2 μ) dX7_actAt_27 rfl mg_X7_bestAct mi_X7_bestAct (Or.inl ⟨7, _, TX7, 4, s88_51, rfl⟩) ⟨Nat.le_of_ble_eq_true rfl, Nat.le_of_ble_eq_true rfl⟩ w_298 (Nat.le_of_ble_eq_true rfl) (fun u2 hu2 hcu2 hzu2 => ?_)
      refine sr_callV2_I (pc' := 33) (way_standBehind_sp x2 u2 μ) dX7_actAt_30 rfl mg_X7_standBehind mi_X7_standBehind (Or.inl ⟨7, _, TX7, 4, s88_51, rfl⟩) ⟨Nat.le_of_ble_eq_true rfl, Nat.le_of_ble_eq_true rfl⟩ w_39 (Nat.le_of_ble_eq_true rfl) (fun u3 hu3 hcu3 hzu3 => ?_)
      refine sr_istore_n (i := 2) (lv' := [some (vR 51), some (vI x1), some (vI u3), some (vI x3)]) (pc' := 34) dX7_actAt_33 rfl rfl (by decide) rfl ?_
      refine sr_iinc (lv' := [some (vR 51), some (vI x1), some (vI u3), some (vI (wI (x3 + 1)))]) (pc' := 37) dX7_actAt_34 rfl (by decide) rfl rfl ?_
      refine sr_goto (pc' := 18) dX7_actAt_37 rfl ?_
      exact ih x1 u3 (wI (x3 + 1))
def way_actAt (μ : Mem)  (x1 : Int) : Option (Int) := (way_acts μ).bind fun u1 => if x1 < u1 then ((way_begin μ).bind fun u2 => way_actAt_18 μ BIG x1 u2 0) else (some (-4))
theorem way_actAt_sp {l : Launch} {G : Nv}   (x1 : Int) (μ : Mem) : SP l G S88 mX7_actAt [vR 51, vI x1] μ (way_actAt μ x1) (jI μ) := by
  refine sp_go (lv := [some (vR 51), some (vI x1), none, none]) pn_X7 (Nat.le_of_ble_eq_true rfl) rfl ?_
  unfold way_actAt
  refine sr_iload_n (i := 1) (pc' := 1) dX7_actAt_0 rfl rfl rfl ?_
  refine sr_aload_n (i := 0) (pc' := 2) dX7_actAt_1 rfl rfl rfl ?_
  refine sr_callV0_I (pc' := 5) (way_acts_sp μ) dX7_actAt_2 rfl mg_X7_acts mi_X7_acts (Or.inl ⟨7, _, TX7, 4, s88_51, rfl⟩) ⟨Nat.le_of_ble_eq_true rfl, Nat.le_of_ble_eq_true rfl⟩ w_299 (Nat.le_of_ble_eq_true rfl) (fun u1 hu1 hcu1 hzu1 => ?_)
  refine sr_icmp_lt (pc' := 8) (tgt := 11) dX7_actAt_5 rfl rfl (fun c5 => ?_) (fun c5 => ?_)
  · refine sr_aload_n (i := 0) (pc' := 12) dX7_actAt_11 rfl rfl rfl ?_
    refine sr_callV0_I (pc' := 15) (way_begin_sp μ) dX7_actAt_12 rfl mg_X7_begin mi_X7_begin (Or.inl ⟨7, _, TX7, 4, s88_51, rfl⟩) ⟨Nat.le_of_ble_eq_true rfl, Nat.le_of_ble_eq_true rfl⟩ w_41 (Nat.le_of_ble_eq_true rfl) (fun u2 hu2 hcu2 hzu2 => ?_)
    refine sr_istore_n (i := 2) (lv' := [some (vR 51), some (vI x1), some (vI u2), none]) (pc' := 16) dX7_actAt_15 rfl rfl (by decide) rfl ?_
    refine sr_iconst (pc' := 17) dX7_actAt_16 rfl (by decide) ?_
    refine sr_istore_n (i := 3) (lv' := [some (vR 51), some (vI x1), some (vI u2), some (vI 0)]) (pc' := 18) dX7_actAt_17 rfl rfl (by decide) rfl ?_
    exact way_actAt_18_s μ BIG x1 u2 0
  · refine sr_bipush (pc' := 10) dX7_actAt_8 rfl (by decide) (by decide) ?_
    exact sr_iretI dX7_actAt_10 rfl rfl
def ww_way_9  (k20 : Int → Int → Int → Int → Mem → Option (Int × Mem)) (x1 x2 x3 : Int) (μ : Mem) : Option (Int × Mem) := if x3 < 10 then (k20 x1 x2 x3 0 μ) else (k20 x1 x2 x3 1 μ)
theorem ww_way_9_s {l : Launch} {G : Nv}   {k20 : Int → Int → Int → Int → Mem → Option (Int × Mem)} (hk20 : ∀ (x1 x2 x3 s0 : Int) (μ : Mem) , SR l G S88 mX8_way (k20 x1 x2 x3 s0 μ) jIM 20 [some (vR 0), some (vI x1), some (vI x2), some (vI x3), none] [vI s0] μ) : ∀ (x1 x2 x3 : Int) (μ : Mem), SR l G S88 mX8_way (ww_way_9 k20 x1 x2 x3 μ) jIM 9 [some (vR 0), some (vI x1), some (vI x2), some (vI x3), none] [] μ := by
  intro x1 x2 x3 μ
  unfold ww_way_9
  refine sr_iload_n (i := 3) (pc' := 10) dX8_way_9 rfl rfl rfl ?_
  refine sr_bipush (pc' := 12) dX8_way_10 rfl (by decide) (by decide) ?_
  refine sr_icmp_lt (pc' := 15) (tgt := 19) dX8_way_12 rfl rfl (fun c12 => ?_) (fun c12 => ?_)
  · refine sr_iconst (pc' := 20) dX8_way_19 rfl (by decide) ?_
    exact hk20 x1 x2 x3 0 μ
  · refine sr_iconst (pc' := 16) dX8_way_15 rfl (by decide) ?_
    refine sr_goto (pc' := 20) dX8_way_16 rfl ?_
    exact hk20 x1 x2 x3 1 μ
def ww_way_20   (x1 x2 x3 s0 : Int) (μ : Mem) : Option (Int × Mem) := (roa_hasCart 1 μ x1).bind fun u1 => if u1 = 0 then (some ((-1), μ)) else (if x2 < 0 then (some ((-1), μ)) else (if 1 < x2 then (some ((-1), μ)) else (if s0 = 0 then (some ((-1), μ)) else ((way_find x1 x2 μ).bind fun μ2 => (way_isFound μ2).bind fun u3 => if u3 = 0 then (some ((-4), μ2)) else (if x3 = 0 then ((way_money μ2).bind fun u4 => some (u4, μ2)) else (if x3 = 1 then ((way_hours μ2).bind fun u5 => some (u5, μ2)) else (if x3 = 2 then ((way_acts μ2).bind fun u6 => some (u6, μ2)) else ((way_actAt μ2 (wI (x3 - 10))).bind fun u7 => some (u7, μ2)))))))))
theorem ww_way_20_s {l : Launch} {G : Nv}     : ∀ (x1 x2 x3 s0 : Int) (μ : Mem), SR l G S88 mX8_way (ww_way_20 x1 x2 x3 s0 μ) jIM 20 [some (vR 0), some (vI x1), some (vI x2), some (vI x3), none] [vI s0] μ := by
  intro x1 x2 x3 s0 μ
  unfold ww_way_20
  refine sr_istore (lv' := [some (vR 0), some (vI x1), some (vI x2), some (vI x3), some (vI s0)]) (pc' := 22) dX8_way_20 rfl (by decide) rfl ?_
  refine sr_aload_n (i := 0) (pc' := 23) dX8_way_22 rfl rfl rfl ?_
  refine sr_getR (k := 0) (b := 1) (pc' := 26) cls_X8 dX8_way_23 rfl s88_0 rfl (by decide) w_19 ?_
  refine sr_iload_n (i := 1) (pc' := 27) dX8_way_26 rfl rfl rfl ?_
  refine sr_callVN1_I (pc' := 30) (roa_hasCart_sp isRoad_1 x1 μ) dX8_way_27 rfl mg_X4_hasCart mi_X4_hasCart (Or.inl ⟨4, _, TX4, 12, isRoad_1.1, rfl⟩) ⟨Nat.le_of_ble_eq_true rfl, Nat.le_of_ble_eq_true rfl⟩ w_42 (Nat.le_of_ble_eq_true rfl) (fun u1 hu1 hcu1 hzu1 => ?_)
  refine sr_if_eq (pc' := 33) (tgt := 47) dX8_way_30 rfl rfl (fun c30 => ?_) (fun c30 => ?_)
  · refine sr_iconst (pc' := 48) dX8_way_47 rfl (by decide) ?_
    exact sr_iretI dX8_way_48 rfl rfl
  · refine sr_iload_n (i := 2) (pc' := 34) dX8_way_33 rfl rfl rfl ?_
    refine sr_if_lt (pc' := 37) (tgt := 47) dX8_way_34 rfl rfl (fun c34 => ?_) (fun c34 => ?_)
    · refine sr_iconst (pc' := 48) dX8_way_47 rfl (by decide) ?_
      exact sr_iretI dX8_way_48 rfl rfl
    · refine sr_iload_n (i := 2) (pc' := 38) dX8_way_37 rfl rfl rfl ?_
      refine sr_iconst (pc' := 39) dX8_way_38 rfl (by decide) ?_
      refine sr_icmp_gt (pc' := 42) (tgt := 47) dX8_way_39 rfl rfl (fun c39 => ?_) (fun c39 => ?_)
      · refine sr_iconst (pc' := 48) dX8_way_47 rfl (by decide) ?_
        exact sr_iretI dX8_way_48 rfl rfl
      · refine sr_iload (pc' := 44) dX8_way_42 rfl rfl ?_
        refine sr_if_ne (pc' := 47) (tgt := 49) dX8_way_44 rfl rfl (fun c44 => ?_) (fun c44 => ?_)
        · refine sr_iconst (pc' := 48) dX8_way_47 rfl (by decide) ?_
          exact sr_iretI dX8_way_48 rfl rfl
        · refine sr_aload_n (i := 0) (pc' := 50) dX8_way_49 rfl rfl rfl ?_
          refine sr_getR (k := 7) (b := 51) (pc' := 53) cls_X8 dX8_way_50 rfl s88_0 rfl (by decide) w_43 ?_
          refine sr_iload_n (i := 1) (pc' := 54) dX8_way_53 rfl rfl rfl ?_
          refine sr_iload_n (i := 2) (pc' := 55) dX8_way_54 rfl rfl rfl ?_
          refine sr_callVN2_M (pc' := 58) (way_find_sp x1 x2 μ) dX8_way_55 rfl mg_X7_find mi_X7_find (Or.inl ⟨7, _, TX7, 4, s88_51, rfl⟩) ⟨Nat.le_of_ble_eq_true rfl, Nat.le_of_ble_eq_true rfl⟩ w_300 (Nat.le_of_ble_eq_true rfl) (fun μ2 hμ2 => ?_)
          refine sr_aload_n (i := 0) (pc' := 59) dX8_way_58 rfl rfl rfl ?_
          refine sr_getR (k := 7) (b := 51) (pc' := 62) cls_X8 dX8_way_59 rfl s88_0 rfl (by decide) w_43 ?_
          refine sr_callVN0_I (pc' := 65) (way_isFound_sp μ2) dX8_way_62 rfl mg_X7_isFound mi_X7_isFound (Or.inl ⟨7, _, TX7, 4, s88_51, rfl⟩) ⟨Nat.le_of_ble_eq_true rfl, Nat.le_of_ble_eq_true rfl⟩ w_301 (Nat.le_of_ble_eq_true rfl) (fun u3 hu3 hcu3 hzu3 => ?_)
          refine sr_if_ne (pc' := 68) (tgt := 71) dX8_way_65 rfl rfl (fun c65 => ?_) (fun c65 => ?_)
          · refine sr_bipush (pc' := 70) dX8_way_68 rfl (by decide) (by decide) ?_
            exact sr_iretI dX8_way_70 rfl rfl
          · refine sr_iload_n (i := 3) (pc' := 72) dX8_way_71 rfl rfl rfl ?_
            refine sr_if_ne (pc' := 75) (tgt := 83) dX8_way_72 rfl rfl (fun c72 => ?_) (fun c72 => ?_)
            · refine sr_aload_n (i := 0) (pc' := 76) dX8_way_75 rfl rfl rfl ?_
              refine sr_getR (k := 7) (b := 51) (pc' := 79) cls_X8 dX8_way_76 rfl s88_0 rfl (by decide) w_43 ?_
              refine sr_callVN0_I (pc' := 82) (way_money_sp μ2) dX8_way_79 rfl mg_X7_money mi_X7_money (Or.inl ⟨7, _, TX7, 4, s88_51, rfl⟩) ⟨Nat.le_of_ble_eq_true rfl, Nat.le_of_ble_eq_true rfl⟩ w_302 (Nat.le_of_ble_eq_true rfl) (fun u4 hu4 hcu4 hzu4 => ?_)
              exact sr_iretI dX8_way_82 rfl rfl
            · refine sr_iload_n (i := 3) (pc' := 84) dX8_way_83 rfl rfl rfl ?_
              refine sr_iconst (pc' := 85) dX8_way_84 rfl (by decide) ?_
              refine sr_icmp_ne (pc' := 88) (tgt := 96) dX8_way_85 rfl rfl (fun c85 => ?_) (fun c85 => ?_)
              · refine sr_aload_n (i := 0) (pc' := 89) dX8_way_88 rfl rfl rfl ?_
                refine sr_getR (k := 7) (b := 51) (pc' := 92) cls_X8 dX8_way_89 rfl s88_0 rfl (by decide) w_43 ?_
                refine sr_callVN0_I (pc' := 95) (way_hours_sp μ2) dX8_way_92 rfl mg_X7_hours mi_X7_hours (Or.inl ⟨7, _, TX7, 4, s88_51, rfl⟩) ⟨Nat.le_of_ble_eq_true rfl, Nat.le_of_ble_eq_true rfl⟩ w_303 (Nat.le_of_ble_eq_true rfl) (fun u5 hu5 hcu5 hzu5 => ?_)
                exact sr_iretI dX8_way_95 rfl rfl
              · refine sr_iload_n (i := 3) (pc' := 97) dX8_way_96 rfl rfl rfl ?_
                refine sr_iconst (pc' := 98) dX8_way_97 rfl (by decide) ?_
                refine sr_icmp_ne (pc' := 101) (tgt := 111) dX8_way_98 rfl rfl (fun c98 => ?_) (fun c98 => ?_)
                · refine sr_aload_n (i := 0) (pc' := 102) dX8_way_101 rfl rfl rfl ?_
                  refine sr_getR (k := 7) (b := 51) (pc' := 105) cls_X8 dX8_way_102 rfl s88_0 rfl (by decide) w_43 ?_
                  refine sr_callVN0_I (pc' := 108) (way_acts_sp μ2) dX8_way_105 rfl mg_X7_acts mi_X7_acts (Or.inl ⟨7, _, TX7, 4, s88_51, rfl⟩) ⟨Nat.le_of_ble_eq_true rfl, Nat.le_of_ble_eq_true rfl⟩ w_304 (Nat.le_of_ble_eq_true rfl) (fun u6 hu6 hcu6 hzu6 => ?_)
                  refine sr_goto (pc' := 122) dX8_way_108 rfl ?_
                  exact sr_iretI dX8_way_122 rfl rfl
                · refine sr_aload_n (i := 0) (pc' := 112) dX8_way_111 rfl rfl rfl ?_
                  refine sr_getR (k := 7) (b := 51) (pc' := 115) cls_X8 dX8_way_112 rfl s88_0 rfl (by decide) w_43 ?_
                  refine sr_iload_n (i := 3) (pc' := 116) dX8_way_115 rfl rfl rfl ?_
                  refine sr_bipush (pc' := 118) dX8_way_116 rfl (by decide) (by decide) ?_
                  refine sr_isub (pc' := 119) dX8_way_118 rfl ?_
                  refine sr_callVN1_I (pc' := 122) (way_actAt_sp (wI (x3 - 10)) μ2) dX8_way_119 rfl mg_X7_actAt mi_X7_actAt (Or.inl ⟨7, _, TX7, 4, s88_51, rfl⟩) ⟨Nat.le_of_ble_eq_true rfl, Nat.le_of_ble_eq_true rfl⟩ w_305 (Nat.le_of_ble_eq_true rfl) (fun u7 hu7 hcu7 hzu7 => ?_)
                  exact sr_iretI dX8_way_122 rfl rfl
def ww_way   (x1 x2 x3 : Int) (μ : Mem) : Option (Int × Mem) := if x3 < 0 then (ww_way_9 ww_way_20 x1 x2 x3 μ) else (if x3 ≤ 2 then (ww_way_20 x1 x2 x3 1 μ) else (ww_way_9 ww_way_20 x1 x2 x3 μ))
theorem ww_way_sp {l : Launch} {G : Nv}   (x1 x2 x3 : Int) (μ : Mem) : SP l G S88 mX8_way [vR 0, vI x1, vI x2, vI x3] μ (ww_way x1 x2 x3 μ) jIM := by
  refine sp_go (lv := [some (vR 0), some (vI x1), some (vI x2), some (vI x3), none]) pn_X8 (Nat.le_of_ble_eq_true rfl) rfl ?_
  unfold ww_way
  refine sr_iload_n (i := 3) (pc' := 1) dX8_way_0 rfl rfl rfl ?_
  refine sr_if_lt (pc' := 4) (tgt := 9) dX8_way_1 rfl rfl (fun c1 => ?_) (fun c1 => ?_)
  · exact ww_way_9_s ww_way_20_s x1 x2 x3 μ
  · refine sr_iload_n (i := 3) (pc' := 5) dX8_way_4 rfl rfl rfl ?_
    refine sr_iconst (pc' := 6) dX8_way_5 rfl (by decide) ?_
    refine sr_icmp_le (pc' := 9) (tgt := 15) dX8_way_6 rfl rfl (fun c6 => ?_) (fun c6 => ?_)
    · refine sr_iconst (pc' := 16) dX8_way_15 rfl (by decide) ?_
      refine sr_goto (pc' := 20) dX8_way_16 rfl ?_
      exact ww_way_20_s x1 x2 x3 1 μ
    · exact ww_way_9_s ww_way_20_s x1 x2 x3 μ
def ww_where   (x1 x2 : Int) (μ : Mem) : Option (Int × Mem) := (roa_hasCart 1 μ x1).bind fun u1 => if u1 = 0 then (some ((-1), μ)) else ((ww_isBehind μ x2).bind fun u2 => if u2 = 0 then (some ((-1), μ)) else ((ww_runUpTo x2 μ).bind fun μ3 => (ww_at 38 5 μ3 x1).bind fun u4 => some (u4, μ3)))
theorem ww_where_sp {l : Launch} {G : Nv}   (x1 x2 : Int) (μ : Mem) : SP l G S88 mX8_where [vR 0, vI x1, vI x2] μ (ww_where x1 x2 μ) jIM := by
  refine sp_go (lv := [some (vR 0), some (vI x1), some (vI x2)]) pn_X8 (Nat.le_of_ble_eq_true rfl) rfl ?_
  unfold ww_where
  refine sr_aload_n (i := 0) (pc' := 1) dX8_where_0 rfl rfl rfl ?_
  refine sr_getR (k := 0) (b := 1) (pc' := 4) cls_X8 dX8_where_1 rfl s88_0 rfl (by decide) w_19 ?_
  refine sr_iload_n (i := 1) (pc' := 5) dX8_where_4 rfl rfl rfl ?_
  refine sr_callVN1_I (pc' := 8) (roa_hasCart_sp isRoad_1 x1 μ) dX8_where_5 rfl mg_X4_hasCart mi_X4_hasCart (Or.inl ⟨4, _, TX4, 12, isRoad_1.1, rfl⟩) ⟨Nat.le_of_ble_eq_true rfl, Nat.le_of_ble_eq_true rfl⟩ w_42 (Nat.le_of_ble_eq_true rfl) (fun u1 hu1 hcu1 hzu1 => ?_)
  refine sr_if_eq (pc' := 11) (tgt := 18) dX8_where_8 rfl rfl (fun c8 => ?_) (fun c8 => ?_)
  · refine sr_iconst (pc' := 19) dX8_where_18 rfl (by decide) ?_
    exact sr_iretI dX8_where_19 rfl rfl
  · refine sr_iload_n (i := 2) (pc' := 12) dX8_where_11 rfl rfl rfl ?_
    refine sr_callS1_I (pc' := 15) (ww_isBehind_sp x2 μ) dX8_where_12 rfl mg_X8_isBehind ms_X8_isBehind ⟨Nat.le_of_ble_eq_true rfl, Nat.le_of_ble_eq_true rfl⟩ w_111 (Nat.le_of_ble_eq_true rfl) (fun u2 hu2 hcu2 hzu2 => ?_)
    refine sr_if_ne (pc' := 18) (tgt := 20) dX8_where_15 rfl rfl (fun c15 => ?_) (fun c15 => ?_)
    · refine sr_iconst (pc' := 19) dX8_where_18 rfl (by decide) ?_
      exact sr_iretI dX8_where_19 rfl rfl
    · refine sr_aload_n (i := 0) (pc' := 21) dX8_where_20 rfl rfl rfl ?_
      refine sr_iload_n (i := 2) (pc' := 22) dX8_where_21 rfl rfl rfl ?_
      refine sr_callV1_M (pc' := 25) (ww_runUpTo_sp x2 μ) dX8_where_22 rfl mg_X8_runUpTo mi_X8_runUpTo (Or.inl ⟨8, _, TX8, 11, s88_0, rfl⟩) ⟨Nat.le_of_ble_eq_true rfl, Nat.le_of_ble_eq_true rfl⟩ w_112 (Nat.le_of_ble_eq_true rfl) (fun μ3 hμ3 => ?_)
      refine sr_aload_n (i := 0) (pc' := 26) dX8_where_25 rfl rfl rfl ?_
      refine sr_getR (k := 4) (b := 35) (pc' := 29) cls_X8 dX8_where_26 rfl s88_0 rfl (by decide) w_106 ?_
      refine sr_getRN (k := 2) (b := 38) (pc' := 32) cls_X5 dX8_where_29 rfl s88_35 rfl (by decide) w_135 ?_
      refine sr_iload_n (i := 1) (pc' := 33) dX8_where_32 rfl rfl rfl ?_
      refine sr_callS2_I (pc' := 36) (ww_at_sp s88_38 (by decide) x1 μ3) dX8_where_33 rfl mg_X8_at ms_X8_at ⟨Nat.le_of_ble_eq_true rfl, Nat.le_of_ble_eq_true rfl⟩ w_48 (Nat.le_of_ble_eq_true rfl) (fun u4 hu4 hcu4 hzu4 => ?_)
      exact sr_iretI dX8_where_36 rfl rfl
def ww_whose   (x1 : Int) (μ : Mem) : Option (Int × Mem) := (roa_hasYard 1 μ x1).bind fun u1 => if u1 = 0 then (some ((-1), μ)) else ((fit_find x1 μ).bind fun μ2 => some (μ2 53 4, μ2))
theorem ww_whose_sp {l : Launch} {G : Nv}   (x1 : Int) (μ : Mem) : SP l G S88 mX8_whose [vR 0, vI x1] μ (ww_whose x1 μ) jIM := by
  refine sp_go (lv := [some (vR 0), some (vI x1)]) pn_X8 (Nat.le_of_ble_eq_true rfl) rfl ?_
  unfold ww_whose
  refine sr_aload_n (i := 0) (pc' := 1) dX8_whose_0 rfl rfl rfl ?_
  refine sr_getR (k := 0) (b := 1) (pc' := 4) cls_X8 dX8_whose_1 rfl s88_0 rfl (by decide) w_19 ?_
  refine sr_iload_n (i := 1) (pc' := 5) dX8_whose_4 rfl rfl rfl ?_
  refine sr_callVN1_I (pc' := 8) (roa_hasYard_sp isRoad_1 x1 μ) dX8_whose_5 rfl mg_X4_hasYard mi_X4_hasYard (Or.inl ⟨4, _, TX4, 12, isRoad_1.1, rfl⟩) ⟨Nat.le_of_ble_eq_true rfl, Nat.le_of_ble_eq_true rfl⟩ w_113 (Nat.le_of_ble_eq_true rfl) (fun u1 hu1 hcu1 hzu1 => ?_)
  refine sr_if_ne (pc' := 11) (tgt := 13) dX8_whose_8 rfl rfl (fun c8 => ?_) (fun c8 => ?_)
  · refine sr_iconst (pc' := 12) dX8_whose_11 rfl (by decide) ?_
    exact sr_iretI dX8_whose_12 rfl rfl
  · refine sr_aload_n (i := 0) (pc' := 14) dX8_whose_13 rfl rfl rfl ?_
    refine sr_getR (k := 8) (b := 53) (pc' := 17) cls_X8 dX8_whose_14 rfl s88_0 rfl (by decide) w_202 ?_
    refine sr_iload_n (i := 1) (pc' := 18) dX8_whose_17 rfl rfl rfl ?_
    refine sr_callVN1_M (pc' := 21) (fit_find_sp x1 μ) dX8_whose_18 rfl mg_X0_find mi_X0_find (Or.inl ⟨0, _, TX0, 5, s88_53, rfl⟩) ⟨Nat.le_of_ble_eq_true rfl, Nat.le_of_ble_eq_true rfl⟩ w_203 (Nat.le_of_ble_eq_true rfl) (fun μ2 hμ2 => ?_)
    refine sr_aload_n (i := 0) (pc' := 22) dX8_whose_21 rfl rfl rfl ?_
    refine sr_getR (k := 8) (b := 53) (pc' := 25) cls_X8 dX8_whose_22 rfl s88_0 rfl (by decide) w_202 ?_
    refine sr_getIN (k := 4) (pc' := 28) cls_X0 dX8_whose_25 rfl s88_53 rfl (by decide) w_306 ?_
    exact sr_iretI dX8_whose_28 rfl rfl
def roa_widthsAt_24 (r : Nat) (μ : Mem) (k4 : Int → Int → Int → Option (Int)) (x1 x2 x3 : Int) : Option (Int) := k4 x1 x2 (wI (x3 + 1))
theorem roa_widthsAt_24_s {l : Launch} {G : Nv} {Sh : Shp} {r : Nat} (hr : IsRoad Sh r) (μ : Mem) {k4 : Int → Int → Int → Option (Int)} (hk4 : ∀ (x1 x2 x3 : Int) , SR l G Sh mX4_widthsAt (k4 x1 x2 x3) (jI μ) 4 [some (vR r), some (vI x1), some (vI x2), some (vI x3)] [] μ) : ∀ (x1 x2 x3 : Int), SR l G Sh mX4_widthsAt (roa_widthsAt_24 r μ k4 x1 x2 x3) (jI μ) 24 [some (vR r), some (vI x1), some (vI x2), some (vI x3)] [] μ := by
  intro x1 x2 x3
  unfold roa_widthsAt_24
  refine sr_iinc (lv' := [some (vR r), some (vI x1), some (vI x2), some (vI (wI (x3 + 1)))]) (pc' := 27) dX4_widthsAt_24 rfl (by decide) rfl rfl ?_
  refine sr_goto (pc' := 4) dX4_widthsAt_27 rfl ?_
  exact hk4 x1 x2 (wI (x3 + 1))
def roa_widthsAt_4 (r : Nat) (μ : Mem)  : Nat → Int → Int → Int → Option (Int)
  | 0, _, _, _ => none
  | n + 1, x1, x2, x3 => if 3 ≤ x3 then (some x2) else ((roa_hasRut r μ x1 x3).bind fun u1 => if u1 = 0 then (roa_widthsAt_24 r μ (roa_widthsAt_4 r μ n) x1 x2 x3) else (bnd (iOr x2 (iShl 1 x3)) fun v2 => roa_widthsAt_24 r μ (roa_widthsAt_4 r μ n) x1 v2 x3))
theorem roa_widthsAt_4_s {l : Launch} {G : Nv} {Sh : Shp} {r : Nat} (hr : IsRoad Sh r) (μ : Mem)   : ∀ (n : Nat) (x1 x2 x3 : Int), SR l G Sh mX4_widthsAt (roa_widthsAt_4 r μ n x1 x2 x3) (jI μ) 4 [some (vR r), some (vI x1), some (vI x2), some (vI x3)] [] μ := by
  intro n
  induction n with
  | zero => intro x1 x2 x3; exact sr_none
  | succ n ih =>
    intro x1 x2 x3
    rw [roa_widthsAt_4.eq_2]
    refine sr_iload_n (i := 3) (pc' := 5) dX4_widthsAt_4 rfl rfl rfl ?_
    refine sr_iconst (pc' := 6) dX4_widthsAt_5 rfl (by decide) ?_
    refine sr_icmp_ge (pc' := 9) (tgt := 30) dX4_widthsAt_6 rfl rfl (fun c6 => ?_) (fun c6 => ?_)
    · refine sr_iload_n (i := 2) (pc' := 31) dX4_widthsAt_30 rfl rfl rfl ?_
      exact sr_iretI dX4_widthsAt_31 rfl rfl
    · refine sr_aload_n (i := 0) (pc' := 10) dX4_widthsAt_9 rfl rfl rfl ?_
      refine sr_iload_n (i := 1) (pc' := 11) dX4_widthsAt_10 rfl rfl rfl ?_
      refine sr_iload_n (i := 3) (pc' := 12) dX4_widthsAt_11 rfl rfl rfl ?_
      refine sr_callV2_I (pc' := 15) (roa_hasRut_sp hr x1 x3 μ) dX4_widthsAt_12 rfl mg_X4_hasRut mi_X4_hasRut (Or.inl ⟨4, _, TX4, 12, hr.1, rfl⟩) ⟨Nat.le_of_ble_eq_true rfl, Nat.le_of_ble_eq_true rfl⟩ w_33 (Nat.le_of_ble_eq_true rfl) (fun u1 hu1 hcu1 hzu1 => ?_)
      refine sr_if_eq (pc' := 18) (tgt := 24) dX4_widthsAt_15 rfl rfl (fun c15 => ?_) (fun c15 => ?_)
      · exact roa_widthsAt_24_s hr μ ih x1 x2 x3
      · refine sr_iload_n (i := 2) (pc' := 19) dX4_widthsAt_18 rfl rfl rfl ?_
        refine sr_iconst (pc' := 20) dX4_widthsAt_19 rfl (by decide) ?_
        refine sr_iload_n (i := 3) (pc' := 21) dX4_widthsAt_20 rfl rfl rfl ?_
        refine sr_ishl (pc' := 22) dX4_widthsAt_21 rfl ?_
        refine sr_ior (pc' := 23) dX4_widthsAt_22 rfl ?_
        refine sr_bnd (fun v2 hv2 => ?_)
        refine sr_istore_n (i := 2) (lv' := [some (vR r), some (vI x1), some (vI v2), some (vI x3)]) (pc' := 24) dX4_widthsAt_23 rfl rfl (by decide) rfl ?_
        exact roa_widthsAt_24_s hr μ ih x1 v2 x3
def roa_widthsAt (r : Nat) (μ : Mem)  (x1 : Int) : Option (Int) := roa_widthsAt_4 r μ BIG x1 0 0
theorem roa_widthsAt_sp {l : Launch} {G : Nv} {Sh : Shp} {r : Nat} (hr : IsRoad Sh r) (x1 : Int) (μ : Mem) : SP l G Sh mX4_widthsAt [vR r, vI x1] μ (roa_widthsAt r μ x1) (jI μ) := by
  refine sp_go (lv := [some (vR r), some (vI x1), none, none]) pn_X4 (Nat.le_of_ble_eq_true rfl) rfl ?_
  unfold roa_widthsAt
  refine sr_iconst (pc' := 1) dX4_widthsAt_0 rfl (by decide) ?_
  refine sr_istore_n (i := 2) (lv' := [some (vR r), some (vI x1), some (vI 0), none]) (pc' := 2) dX4_widthsAt_1 rfl rfl (by decide) rfl ?_
  refine sr_iconst (pc' := 3) dX4_widthsAt_2 rfl (by decide) ?_
  refine sr_istore_n (i := 3) (lv' := [some (vR r), some (vI x1), some (vI 0), some (vI 0)]) (pc' := 4) dX4_widthsAt_3 rfl rfl (by decide) rfl ?_
  exact roa_widthsAt_4_s hr μ BIG x1 0 0
def ww_yard (μ : Mem)  (x1 x2 : Int) : Option (Int) := (roa_hasYard 1 μ x1).bind fun u1 => if u1 = 0 then (some (-1)) else (if x2 = 0 then ((roa_widthsAt 1 μ x1).bind fun u2 => some u2) else (if x2 = 1 then ((roa_isBog 1 μ x1).bind fun u3 => if u3 = 0 then (some 0) else (some 1)) else (if x2 = 2 then ((roa_smithAt 1 μ x1).bind fun u4 => some u4) else ((ww_isWidth μ (wI (x2 - 10))).bind fun u5 => if u5 = 0 then ((ww_isWidth μ (wI (x2 - 20))).bind fun u6 => if u6 = 0 then (some (-1)) else ((ww_rut μ x1 (wI (x2 - 20))).bind fun u7 => (ww_at 4 63 μ u7).bind fun u8 => some u8)) else ((roa_hasRut 1 μ x1 (wI (x2 - 10))).bind fun u9 => if u9 = 0 then (some (-4)) else ((ww_rut μ x1 (wI (x2 - 10))).bind fun u10 => (ww_at 5 63 μ u10).bind fun u11 => some u11))))))
theorem ww_yard_sp {l : Launch} {G : Nv}   (x1 x2 : Int) (μ : Mem) : SP l G S88 mX8_yard [vR 0, vI x1, vI x2] μ (ww_yard μ x1 x2) (jI μ) := by
  refine sp_go (lv := [some (vR 0), some (vI x1), some (vI x2)]) pn_X8 (Nat.le_of_ble_eq_true rfl) rfl ?_
  unfold ww_yard
  refine sr_aload_n (i := 0) (pc' := 1) dX8_yard_0 rfl rfl rfl ?_
  refine sr_getR (k := 0) (b := 1) (pc' := 4) cls_X8 dX8_yard_1 rfl s88_0 rfl (by decide) w_19 ?_
  refine sr_iload_n (i := 1) (pc' := 5) dX8_yard_4 rfl rfl rfl ?_
  refine sr_callVN1_I (pc' := 8) (roa_hasYard_sp isRoad_1 x1 μ) dX8_yard_5 rfl mg_X4_hasYard mi_X4_hasYard (Or.inl ⟨4, _, TX4, 12, isRoad_1.1, rfl⟩) ⟨Nat.le_of_ble_eq_true rfl, Nat.le_of_ble_eq_true rfl⟩ w_113 (Nat.le_of_ble_eq_true rfl) (fun u1 hu1 hcu1 hzu1 => ?_)
  refine sr_if_ne (pc' := 11) (tgt := 13) dX8_yard_8 rfl rfl (fun c8 => ?_) (fun c8 => ?_)
  · refine sr_iconst (pc' := 12) dX8_yard_11 rfl (by decide) ?_
    exact sr_iretI dX8_yard_12 rfl rfl
  · refine sr_iload_n (i := 2) (pc' := 14) dX8_yard_13 rfl rfl rfl ?_
    refine sr_if_ne (pc' := 17) (tgt := 26) dX8_yard_14 rfl rfl (fun c14 => ?_) (fun c14 => ?_)
    · refine sr_aload_n (i := 0) (pc' := 18) dX8_yard_17 rfl rfl rfl ?_
      refine sr_getR (k := 0) (b := 1) (pc' := 21) cls_X8 dX8_yard_18 rfl s88_0 rfl (by decide) w_19 ?_
      refine sr_iload_n (i := 1) (pc' := 22) dX8_yard_21 rfl rfl rfl ?_
      refine sr_callVN1_I (pc' := 25) (roa_widthsAt_sp isRoad_1 x1 μ) dX8_yard_22 rfl mg_X4_widthsAt mi_X4_widthsAt (Or.inl ⟨4, _, TX4, 12, isRoad_1.1, rfl⟩) ⟨Nat.le_of_ble_eq_true rfl, Nat.le_of_ble_eq_true rfl⟩ w_307 (Nat.le_of_ble_eq_true rfl) (fun u2 hu2 hcu2 hzu2 => ?_)
      exact sr_iretI dX8_yard_25 rfl rfl
    · refine sr_iload_n (i := 2) (pc' := 27) dX8_yard_26 rfl rfl rfl ?_
      refine sr_iconst (pc' := 28) dX8_yard_27 rfl (by decide) ?_
      refine sr_icmp_ne (pc' := 31) (tgt := 48) dX8_yard_28 rfl rfl (fun c28 => ?_) (fun c28 => ?_)
      · refine sr_aload_n (i := 0) (pc' := 32) dX8_yard_31 rfl rfl rfl ?_
        refine sr_getR (k := 0) (b := 1) (pc' := 35) cls_X8 dX8_yard_32 rfl s88_0 rfl (by decide) w_19 ?_
        refine sr_iload_n (i := 1) (pc' := 36) dX8_yard_35 rfl rfl rfl ?_
        refine sr_callVN1_I (pc' := 39) (roa_isBog_sp isRoad_1 x1 μ) dX8_yard_36 rfl mg_X4_isBog mi_X4_isBog (Or.inl ⟨4, _, TX4, 12, isRoad_1.1, rfl⟩) ⟨Nat.le_of_ble_eq_true rfl, Nat.le_of_ble_eq_true rfl⟩ w_308 (Nat.le_of_ble_eq_true rfl) (fun u3 hu3 hcu3 hzu3 => ?_)
        refine sr_if_eq (pc' := 42) (tgt := 46) dX8_yard_39 rfl rfl (fun c39 => ?_) (fun c39 => ?_)
        · refine sr_iconst (pc' := 47) dX8_yard_46 rfl (by decide) ?_
          exact sr_iretI dX8_yard_47 rfl rfl
        · refine sr_iconst (pc' := 43) dX8_yard_42 rfl (by decide) ?_
          refine sr_goto (pc' := 47) dX8_yard_43 rfl ?_
          exact sr_iretI dX8_yard_47 rfl rfl
      · refine sr_iload_n (i := 2) (pc' := 49) dX8_yard_48 rfl rfl rfl ?_
        refine sr_iconst (pc' := 50) dX8_yard_49 rfl (by decide) ?_
        refine sr_icmp_ne (pc' := 53) (tgt := 62) dX8_yard_50 rfl rfl (fun c50 => ?_) (fun c50 => ?_)
        · refine sr_aload_n (i := 0) (pc' := 54) dX8_yard_53 rfl rfl rfl ?_
          refine sr_getR (k := 0) (b := 1) (pc' := 57) cls_X8 dX8_yard_54 rfl s88_0 rfl (by decide) w_19 ?_
          refine sr_iload_n (i := 1) (pc' := 58) dX8_yard_57 rfl rfl rfl ?_
          refine sr_callVN1_I (pc' := 61) (roa_smithAt_sp isRoad_1 x1 μ) dX8_yard_58 rfl mg_X4_smithAt mi_X4_smithAt (Or.inl ⟨4, _, TX4, 12, isRoad_1.1, rfl⟩) ⟨Nat.le_of_ble_eq_true rfl, Nat.le_of_ble_eq_true rfl⟩ w_309 (Nat.le_of_ble_eq_true rfl) (fun u4 hu4 hcu4 hzu4 => ?_)
          exact sr_iretI dX8_yard_61 rfl rfl
        · refine sr_iload_n (i := 2) (pc' := 63) dX8_yard_62 rfl rfl rfl ?_
          refine sr_bipush (pc' := 65) dX8_yard_63 rfl (by decide) (by decide) ?_
          refine sr_isub (pc' := 66) dX8_yard_65 rfl ?_
          refine sr_callS1_I (pc' := 69) (ww_isWidth_sp (wI (x2 - 10)) μ) dX8_yard_66 rfl mg_X8_isWidth ms_X8_isWidth ⟨Nat.le_of_ble_eq_true rfl, Nat.le_of_ble_eq_true rfl⟩ w_114 (Nat.le_of_ble_eq_true rfl) (fun u5 hu5 hcu5 hzu5 => ?_)
          refine sr_if_eq (pc' := 72) (tgt := 111) dX8_yard_69 rfl rfl (fun c69 => ?_) (fun c69 => ?_)
          · refine sr_iload_n (i := 2) (pc' := 112) dX8_yard_111 rfl rfl rfl ?_
            refine sr_bipush (pc' := 114) dX8_yard_112 rfl (by decide) (by decide) ?_
            refine sr_isub (pc' := 115) dX8_yard_114 rfl ?_
            refine sr_callS1_I (pc' := 118) (ww_isWidth_sp (wI (x2 - 20)) μ) dX8_yard_115 rfl mg_X8_isWidth ms_X8_isWidth ⟨Nat.le_of_ble_eq_true rfl, Nat.le_of_ble_eq_true rfl⟩ w_114 (Nat.le_of_ble_eq_true rfl) (fun u6 hu6 hcu6 hzu6 => ?_)
            refine sr_if_eq (pc' := 121) (tgt := 142) dX8_yard_118 rfl rfl (fun c118 => ?_) (fun c118 => ?_)
            · refine sr_iconst (pc' := 143) dX8_yard_142 rfl (by decide) ?_
              exact sr_iretI dX8_yard_143 rfl rfl
            · refine sr_aload_n (i := 0) (pc' := 122) dX8_yard_121 rfl rfl rfl ?_
              refine sr_getR (k := 0) (b := 1) (pc' := 125) cls_X8 dX8_yard_122 rfl s88_0 rfl (by decide) w_19 ?_
              refine sr_getR (k := 2) (b := 4) (pc' := 128) cls_X4 dX8_yard_125 rfl isRoad_1.1 rfl (by decide) w_310 ?_
              refine sr_iload_n (i := 1) (pc' := 129) dX8_yard_128 rfl rfl rfl ?_
              refine sr_iload_n (i := 2) (pc' := 130) dX8_yard_129 rfl rfl rfl ?_
              refine sr_bipush (pc' := 132) dX8_yard_130 rfl (by decide) (by decide) ?_
              refine sr_isub (pc' := 133) dX8_yard_132 rfl ?_
              refine sr_callS2_I (pc' := 136) (ww_rut_sp x1 (wI (x2 - 20)) μ) dX8_yard_133 rfl mg_X8_rut ms_X8_rut ⟨Nat.le_of_ble_eq_true rfl, Nat.le_of_ble_eq_true rfl⟩ w_115 (Nat.le_of_ble_eq_true rfl) (fun u7 hu7 hcu7 hzu7 => ?_)
              refine sr_callS2_I (pc' := 139) (ww_at_sp isRoad_1.2.2.2.1 (by decide) u7 μ) dX8_yard_136 rfl mg_X8_at ms_X8_at ⟨Nat.le_of_ble_eq_true rfl, Nat.le_of_ble_eq_true rfl⟩ w_48 (Nat.le_of_ble_eq_true rfl) (fun u8 hu8 hcu8 hzu8 => ?_)
              refine sr_goto (pc' := 143) dX8_yard_139 rfl ?_
              exact sr_iretI dX8_yard_143 rfl rfl
          · refine sr_aload_n (i := 0) (pc' := 73) dX8_yard_72 rfl rfl rfl ?_
            refine sr_getR (k := 0) (b := 1) (pc' := 76) cls_X8 dX8_yard_73 rfl s88_0 rfl (by decide) w_19 ?_
            refine sr_iload_n (i := 1) (pc' := 77) dX8_yard_76 rfl rfl rfl ?_
            refine sr_iload_n (i := 2) (pc' := 78) dX8_yard_77 rfl rfl rfl ?_
            refine sr_bipush (pc' := 80) dX8_yard_78 rfl (by decide) (by decide) ?_
            refine sr_isub (pc' := 81) dX8_yard_80 rfl ?_
            refine sr_callVN2_I (pc' := 84) (roa_hasRut_sp isRoad_1 x1 (wI (x2 - 10)) μ) dX8_yard_81 rfl mg_X4_hasRut mi_X4_hasRut (Or.inl ⟨4, _, TX4, 12, isRoad_1.1, rfl⟩) ⟨Nat.le_of_ble_eq_true rfl, Nat.le_of_ble_eq_true rfl⟩ w_109 (Nat.le_of_ble_eq_true rfl) (fun u9 hu9 hcu9 hzu9 => ?_)
            refine sr_if_eq (pc' := 87) (tgt := 108) dX8_yard_84 rfl rfl (fun c84 => ?_) (fun c84 => ?_)
            · refine sr_bipush (pc' := 110) dX8_yard_108 rfl (by decide) (by decide) ?_
              exact sr_iretI dX8_yard_110 rfl rfl
            · refine sr_aload_n (i := 0) (pc' := 88) dX8_yard_87 rfl rfl rfl ?_
              refine sr_getR (k := 0) (b := 1) (pc' := 91) cls_X8 dX8_yard_88 rfl s88_0 rfl (by decide) w_19 ?_
              refine sr_getR (k := 3) (b := 5) (pc' := 94) cls_X4 dX8_yard_91 rfl isRoad_1.1 rfl (by decide) w_117 ?_
              refine sr_iload_n (i := 1) (pc' := 95) dX8_yard_94 rfl rfl rfl ?_
              refine sr_iload_n (i := 2) (pc' := 96) dX8_yard_95 rfl rfl rfl ?_
              refine sr_bipush (pc' := 98) dX8_yard_96 rfl (by decide) (by decide) ?_
              refine sr_isub (pc' := 99) dX8_yard_98 rfl ?_
              refine sr_callS2_I (pc' := 102) (ww_rut_sp x1 (wI (x2 - 10)) μ) dX8_yard_99 rfl mg_X8_rut ms_X8_rut ⟨Nat.le_of_ble_eq_true rfl, Nat.le_of_ble_eq_true rfl⟩ w_115 (Nat.le_of_ble_eq_true rfl) (fun u10 hu10 hcu10 hzu10 => ?_)
              refine sr_callS2_I (pc' := 105) (ww_at_sp isRoad_1.2.2.2.2.1 (by decide) u10 μ) dX8_yard_102 rfl mg_X8_at ms_X8_at ⟨Nat.le_of_ble_eq_true rfl, Nat.le_of_ble_eq_true rfl⟩ w_48 (Nat.le_of_ble_eq_true rfl) (fun u11 hu11 hcu11 hzu11 => ?_)
              refine sr_goto (pc' := 110) dX8_yard_105 rfl ?_
              exact sr_iretI dX8_yard_110 rfl rfl
def mod_of (μ : Mem)  (x1 x2 : Int) : Option (Int) := (ld μ 62 555 (wI ((wI (1 + (wI (7 * x1)))) + x2))).bind fun v1 => some v1
theorem mod_of_sp {l : Launch} {G : Nv}   (x1 x2 : Int) (μ : Mem) : SP l G S88 mX9_of [vR 61, vI x1, vI x2] μ (mod_of μ x1 x2) (jI μ) := by
  refine sp_go (lv := [some (vR 61), some (vI x1), some (vI x2)]) pn_X9 (Nat.le_of_ble_eq_true rfl) rfl ?_
  unfold mod_of
  refine sr_aload_n (i := 0) (pc' := 1) dX9_of_0 rfl rfl rfl ?_
  refine sr_getR (k := 0) (b := 62) (pc' := 4) cls_X9 dX9_of_1 rfl s88_61 rfl (by decide) w_311 ?_
  refine sr_iconst (pc' := 5) dX9_of_4 rfl (by decide) ?_
  refine sr_bipush (pc' := 7) dX9_of_5 rfl (by decide) (by decide) ?_
  refine sr_iload_n (i := 1) (pc' := 8) dX9_of_7 rfl rfl rfl ?_
  refine sr_imul (pc' := 9) dX9_of_8 rfl ?_
  refine sr_iadd (pc' := 10) dX9_of_9 rfl ?_
  refine sr_iload_n (i := 2) (pc' := 11) dX9_of_10 rfl rfl rfl ?_
  refine sr_iadd (pc' := 12) dX9_of_11 rfl ?_
  refine sr_iald (pc' := 13) dX9_of_12 rfl s88_62 (by decide) (fun v1 hv1 hv1a hv1b => ?_)
  exact sr_iretI dX9_of_13 rfl rfl
def mod_startRun_54   : Nat → Int → Mem → Option (Mem)
  | 0, _, _ => none
  | n + 1, x1, μ => if 63 ≤ x1 then (some μ) else ((ld μ 62 555 (wI (36 + x1))).bind fun v1 => (stx μ 79 63 x1 v1).bind fun μ2 => mod_startRun_54 n (wI (x1 + 1)) μ2)
theorem mod_startRun_54_s {l : Launch} {G : Nv}     : ∀ (n : Nat) (x1 : Int) (μ : Mem), SR l G S88 mX9_startRun (mod_startRun_54 n x1 μ) jM 54 [some (vR 61), some (vI x1)] [] μ := by
  intro n
  induction n with
  | zero => intro x1 μ; exact sr_none
  | succ n ih =>
    intro x1 μ
    rw [mod_startRun_54.eq_2]
    refine sr_iload_n (i := 1) (pc' := 55) dX9_startRun_54 rfl rfl rfl ?_
    refine sr_bipush (pc' := 57) dX9_startRun_55 rfl (by decide) (by decide) ?_
    refine sr_icmp_ge (pc' := 60) (tgt := 81) dX9_startRun_57 rfl rfl (fun c57 => ?_) (fun c57 => ?_)
    · exact sr_ret dX9_startRun_81 rfl rfl
    · refine sr_aload_n (i := 0) (pc' := 61) dX9_startRun_60 rfl rfl rfl ?_
      refine sr_getR (k := 29) (b := 79) (pc' := 64) cls_X9 dX9_startRun_61 rfl s88_61 rfl (by decide) w_312 ?_
      refine sr_iload_n (i := 1) (pc' := 65) dX9_startRun_64 rfl rfl rfl ?_
      refine sr_aload_n (i := 0) (pc' := 66) dX9_startRun_65 rfl rfl rfl ?_
      refine sr_getR (k := 0) (b := 62) (pc' := 69) cls_X9 dX9_startRun_66 rfl s88_61 rfl (by decide) w_311 ?_
      refine sr_bipush (pc' := 71) dX9_startRun_69 rfl (by decide) (by decide) ?_
      refine sr_iload_n (i := 1) (pc' := 72) dX9_startRun_71 rfl rfl rfl ?_
      refine sr_iadd (pc' := 73) dX9_startRun_72 rfl ?_
      refine sr_iald (pc' := 74) dX9_startRun_73 rfl s88_62 (by decide) (fun v1 hv1 hv1a hv1b => ?_)
      refine sr_iast (pc' := 75) dX9_startRun_74 rfl s88_79 (by decide) (fun μ2 hμ2 hμ2a hμ2b => ?_)
      refine sr_iinc (lv' := [some (vR 61), some (vI (wI (x1 + 1)))]) (pc' := 78) dX9_startRun_75 rfl (by decide) rfl rfl ?_
      refine sr_goto (pc' := 54) dX9_startRun_78 rfl ?_
      exact ih (wI (x1 + 1)) μ2
def mod_startRun_2   : Nat → Int → Mem → Option (Mem)
  | 0, _, _ => none
  | n + 1, x1, μ => if (μ 62 0) ≤ x1 then (mod_startRun_54 BIG 0 μ) else ((mod_of μ x1 4).bind fun u1 => (stx μ 75 5 x1 u1).bind fun μ2 => (stx μ2 76 5 x1 0).bind fun μ3 => (stx μ3 77 5 x1 0).bind fun μ4 => (stx μ4 78 5 x1 (-4)).bind fun μ5 => mod_startRun_2 n (wI (x1 + 1)) μ5)
theorem mod_startRun_2_s {l : Launch} {G : Nv}     : ∀ (n : Nat) (x1 : Int) (μ : Mem), SR l G S88 mX9_startRun (mod_startRun_2 n x1 μ) jM 2 [some (vR 61), some (vI x1)] [] μ := by
  intro n
  induction n with
  | zero => intro x1 μ; exact sr_none
  | succ n ih =>
    intro x1 μ
    rw [mod_startRun_2.eq_2]
    refine sr_iload_n (i := 1) (pc' := 3) dX9_startRun_2 rfl rfl rfl ?_
    refine sr_aload_n (i := 0) (pc' := 4) dX9_startRun_3 rfl rfl rfl ?_
    refine sr_getR (k := 0) (b := 62) (pc' := 7) cls_X9 dX9_startRun_4 rfl s88_61 rfl (by decide) w_311 ?_
    refine sr_iconst (pc' := 8) dX9_startRun_7 rfl (by decide) ?_
    refine sr_ialdc (j := 0) (pc' := 9) dX9_startRun_8 rfl s88_62 (by decide) (by decide) (by decide) rfl ?_
    refine sr_icmp_ge (pc' := 12) (tgt := 52) dX9_startRun_9 rfl rfl (fun c9 => ?_) (fun c9 => ?_)
    · refine sr_iconst (pc' := 53) dX9_startRun_52 rfl (by decide) ?_
      refine sr_istore_n (i := 1) (lv' := [some (vR 61), some (vI 0)]) (pc' := 54) dX9_startRun_53 rfl rfl (by decide) rfl ?_
      exact mod_startRun_54_s BIG 0 μ
    · refine sr_aload_n (i := 0) (pc' := 13) dX9_startRun_12 rfl rfl rfl ?_
      refine sr_getR (k := 25) (b := 75) (pc' := 16) cls_X9 dX9_startRun_13 rfl s88_61 rfl (by decide) w_313 ?_
      refine sr_iload_n (i := 1) (pc' := 17) dX9_startRun_16 rfl rfl rfl ?_
      refine sr_aload_n (i := 0) (pc' := 18) dX9_startRun_17 rfl rfl rfl ?_
      refine sr_iload_n (i := 1) (pc' := 19) dX9_startRun_18 rfl rfl rfl ?_
      refine sr_iconst (pc' := 20) dX9_startRun_19 rfl (by decide) ?_
      refine sr_callV2_I (pc' := 23) (mod_of_sp x1 4 μ) dX9_startRun_20 rfl mg_X9_of mi_X9_of (Or.inl ⟨9, _, TX9, 40, s88_61, rfl⟩) ⟨Nat.le_of_ble_eq_true rfl, Nat.le_of_ble_eq_true rfl⟩ w_314 (Nat.le_of_ble_eq_true rfl) (fun u1 hu1 hcu1 hzu1 => ?_)
      refine sr_iast (pc' := 24) dX9_startRun_23 rfl s88_75 (by decide) (fun μ2 hμ2 hμ2a hμ2b => ?_)
      refine sr_aload_n (i := 0) (pc' := 25) dX9_startRun_24 rfl rfl rfl ?_
      refine sr_getR (k := 26) (b := 76) (pc' := 28) cls_X9 dX9_startRun_25 rfl s88_61 rfl (by decide) w_315 ?_
      refine sr_iload_n (i := 1) (pc' := 29) dX9_startRun_28 rfl rfl rfl ?_
      refine sr_iconst (pc' := 30) dX9_startRun_29 rfl (by decide) ?_
      refine sr_iast (pc' := 31) dX9_startRun_30 rfl s88_76 (by decide) (fun μ3 hμ3 hμ3a hμ3b => ?_)
      refine sr_aload_n (i := 0) (pc' := 32) dX9_startRun_31 rfl rfl rfl ?_
      refine sr_getR (k := 27) (b := 77) (pc' := 35) cls_X9 dX9_startRun_32 rfl s88_61 rfl (by decide) w_316 ?_
      refine sr_iload_n (i := 1) (pc' := 36) dX9_startRun_35 rfl rfl rfl ?_
      refine sr_iconst (pc' := 37) dX9_startRun_36 rfl (by decide) ?_
      refine sr_iast (pc' := 38) dX9_startRun_37 rfl s88_77 (by decide) (fun μ4 hμ4 hμ4a hμ4b => ?_)
      refine sr_aload_n (i := 0) (pc' := 39) dX9_startRun_38 rfl rfl rfl ?_
      refine sr_getR (k := 28) (b := 78) (pc' := 42) cls_X9 dX9_startRun_39 rfl s88_61 rfl (by decide) w_317 ?_
      refine sr_iload_n (i := 1) (pc' := 43) dX9_startRun_42 rfl rfl rfl ?_
      refine sr_bipush (pc' := 45) dX9_startRun_43 rfl (by decide) (by decide) ?_
      refine sr_iast (pc' := 46) dX9_startRun_45 rfl s88_78 (by decide) (fun μ5 hμ5 hμ5a hμ5b => ?_)
      refine sr_iinc (lv' := [some (vR 61), some (vI (wI (x1 + 1)))]) (pc' := 49) dX9_startRun_46 rfl (by decide) rfl rfl ?_
      refine sr_goto (pc' := 2) dX9_startRun_49 rfl ?_
      exact ih (wI (x1 + 1)) μ5
def mod_startRun   (μ : Mem) : Option (Mem) := mod_startRun_2 BIG 0 μ
theorem mod_startRun_sp {l : Launch} {G : Nv}   (μ : Mem) : SP l G S88 mX9_startRun [vR 61] μ (mod_startRun μ) jM := by
  refine sp_go (lv := [some (vR 61), none]) pn_X9 (Nat.le_of_ble_eq_true rfl) rfl ?_
  unfold mod_startRun
  refine sr_iconst (pc' := 1) dX9_startRun_0 rfl (by decide) ?_
  refine sr_istore_n (i := 1) (lv' := [some (vR 61), some (vI 0)]) (pc' := 2) dX9_startRun_1 rfl rfl (by decide) rfl ?_
  exact mod_startRun_2_s BIG 0 μ
def mod_hasRut (μ : Mem)  (x1 x2 : Int) : Option (Int) := (ld μ 65 21 x1).bind fun v1 => if v1 = (-4) then (some 1) else ((ld μ 65 21 x1).bind fun v2 => if v2 = x2 then (some 1) else (some 0))
theorem mod_hasRut_sp {l : Launch} {G : Nv}   (x1 x2 : Int) (μ : Mem) : SP l G S88 mX9_hasRut [vR 61, vI x1, vI x2] μ (mod_hasRut μ x1 x2) (jI μ) := by
  refine sp_go (lv := [some (vR 61), some (vI x1), some (vI x2)]) pn_X9 (Nat.le_of_ble_eq_true rfl) rfl ?_
  unfold mod_hasRut
  refine sr_aload_n (i := 0) (pc' := 1) dX9_hasRut_0 rfl rfl rfl ?_
  refine sr_getR (k := 4) (b := 65) (pc' := 4) cls_X9 dX9_hasRut_1 rfl s88_61 rfl (by decide) w_318 ?_
  refine sr_iload_n (i := 1) (pc' := 5) dX9_hasRut_4 rfl rfl rfl ?_
  refine sr_iald (pc' := 6) dX9_hasRut_5 rfl s88_65 (by decide) (fun v1 hv1 hv1a hv1b => ?_)
  refine sr_bipush (pc' := 8) dX9_hasRut_6 rfl (by decide) (by decide) ?_
  refine sr_icmp_eq (pc' := 11) (tgt := 21) dX9_hasRut_8 rfl rfl (fun c8 => ?_) (fun c8 => ?_)
  · refine sr_iconst (pc' := 22) dX9_hasRut_21 rfl (by decide) ?_
    refine sr_goto (pc' := 26) dX9_hasRut_22 rfl ?_
    exact sr_iretZ dX9_hasRut_26 rfl (Or.inr rfl) rfl
  · refine sr_aload_n (i := 0) (pc' := 12) dX9_hasRut_11 rfl rfl rfl ?_
    refine sr_getR (k := 4) (b := 65) (pc' := 15) cls_X9 dX9_hasRut_12 rfl s88_61 rfl (by decide) w_318 ?_
    refine sr_iload_n (i := 1) (pc' := 16) dX9_hasRut_15 rfl rfl rfl ?_
    refine sr_iald (pc' := 17) dX9_hasRut_16 rfl s88_65 (by decide) (fun v2 hv2 hv2a hv2b => ?_)
    refine sr_iload_n (i := 2) (pc' := 18) dX9_hasRut_17 rfl rfl rfl ?_
    refine sr_icmp_ne (pc' := 21) (tgt := 25) dX9_hasRut_18 rfl rfl (fun c18 => ?_) (fun c18 => ?_)
    · refine sr_iconst (pc' := 22) dX9_hasRut_21 rfl (by decide) ?_
      refine sr_goto (pc' := 26) dX9_hasRut_22 rfl ?_
      exact sr_iretZ dX9_hasRut_26 rfl (Or.inr rfl) rfl
    · refine sr_iconst (pc' := 26) dX9_hasRut_25 rfl (by decide) ?_
      exact sr_iretZ dX9_hasRut_26 rfl (Or.inl rfl) rfl
def mod_isFree_96 (μ : Mem) (k5 : Int → Int → Int → Int → Option (Int)) (x1 x2 x4 s0 : Int) : Option (Int) := k5 x1 x2 s0 (wI (x4 + 1))
theorem mod_isFree_96_s {l : Launch} {G : Nv}   (μ : Mem) {k5 : Int → Int → Int → Int → Option (Int)} (hk5 : ∀ (x1 x2 x3 x4 : Int) , SR l G S88 mX9_isFree (k5 x1 x2 x3 x4) (jI μ) 5 [some (vR 61), some (vI x1), some (vI x2), some (vI x3), some (vI x4), none] [] μ) : ∀ (x1 x2 x4 s0 : Int), SR l G S88 mX9_isFree (mod_isFree_96 μ k5 x1 x2 x4 s0) (jI μ) 96 [some (vR 61), some (vI x1), some (vI x2), none, some (vI x4), none] [vI s0] μ := by
  intro x1 x2 x4 s0
  unfold mod_isFree_96
  refine sr_istore_n (i := 3) (lv' := [some (vR 61), some (vI x1), some (vI x2), some (vI s0), some (vI x4), none]) (pc' := 97) dX9_isFree_96 rfl rfl (by decide) rfl ?_
  refine sr_iinc (lv' := [some (vR 61), some (vI x1), some (vI x2), some (vI s0), some (vI (wI (x4 + 1))), none]) (pc' := 100) dX9_isFree_97 rfl (by decide) rfl rfl ?_
  refine sr_goto (pc' := 5) dX9_isFree_100 rfl ?_
  exact hk5 x1 x2 s0 (wI (x4 + 1))
def mod_isFree_55 (μ : Mem) (k5 : Int → Int → Int → Int → Option (Int)) (x1 x2 x3 x4 s0 : Int) : Option (Int) := if x3 = 0 then (mod_isFree_96 μ k5 x1 x2 x4 0) else (if s0 = 0 then (mod_isFree_96 μ k5 x1 x2 x4 1) else ((ld μ 64 21 x2).bind fun v1 => if v1 = 0 then ((mod_of μ x4 1).bind fun u2 => (mod_of μ x1 1).bind fun u3 => if u2 = u3 then (mod_isFree_96 μ k5 x1 x2 x4 0) else (mod_isFree_96 μ k5 x1 x2 x4 1)) else (mod_isFree_96 μ k5 x1 x2 x4 0)))
theorem mod_isFree_55_s {l : Launch} {G : Nv}   (μ : Mem) {k5 : Int → Int → Int → Int → Option (Int)} (hk5 : ∀ (x1 x2 x3 x4 : Int) , SR l G S88 mX9_isFree (k5 x1 x2 x3 x4) (jI μ) 5 [some (vR 61), some (vI x1), some (vI x2), some (vI x3), some (vI x4), none] [] μ) : ∀ (x1 x2 x3 x4 s0 : Int), SR l G S88 mX9_isFree (mod_isFree_55 μ k5 x1 x2 x3 x4 s0) (jI μ) 55 [some (vR 61), some (vI x1), some (vI x2), some (vI x3), some (vI x4), none] [vI s0] μ := by
  intro x1 x2 x3 x4 s0
  unfold mod_isFree_55
  refine sr_istore (lv' := [some (vR 61), some (vI x1), some (vI x2), some (vI x3), some (vI x4), some (vI s0)]) (pc' := 57) dX9_isFree_55 rfl (by decide) rfl ?_
  refine sr_iload_n (i := 3) (pc' := 58) dX9_isFree_57 rfl rfl rfl ?_
  refine sr_if_eq (pc' := 61) (tgt := 95) dX9_isFree_58 rfl rfl (fun c58 => ?_) (fun c58 => ?_)
  · refine sr_iconst (pc' := 96) dX9_isFree_95 rfl (by decide) ?_
    refine sr_fgt (fgt_s (fgt_s (fgt_s (fgt_n (fgt_s (fgt_n fgt_nil)))))) ?_
    exact mod_isFree_96_s μ hk5 x1 x2 x4 0
  · refine sr_iload (pc' := 63) dX9_isFree_61 rfl rfl ?_
    refine sr_if_eq (pc' := 66) (tgt := 91) dX9_isFree_63 rfl rfl (fun c63 => ?_) (fun c63 => ?_)
    · refine sr_iconst (pc' := 92) dX9_isFree_91 rfl (by decide) ?_
      refine sr_goto (pc' := 96) dX9_isFree_92 rfl ?_
      refine sr_fgt (fgt_s (fgt_s (fgt_s (fgt_n (fgt_s (fgt_n fgt_nil)))))) ?_
      exact mod_isFree_96_s μ hk5 x1 x2 x4 1
    · refine sr_aload_n (i := 0) (pc' := 67) dX9_isFree_66 rfl rfl rfl ?_
      refine sr_getR (k := 3) (b := 64) (pc' := 70) cls_X9 dX9_isFree_67 rfl s88_61 rfl (by decide) w_319 ?_
      refine sr_iload_n (i := 2) (pc' := 71) dX9_isFree_70 rfl rfl rfl ?_
      refine sr_zald (pc' := 72) dX9_isFree_71 rfl s88_64 (by decide) (fun v1 hv1 hv1a hv1b => ?_)
      refine sr_if_ne (pc' := 75) (tgt := 95) dX9_isFree_72 rfl rfl (fun c72 => ?_) (fun c72 => ?_)
      · refine sr_aload_n (i := 0) (pc' := 76) dX9_isFree_75 rfl rfl rfl ?_
        refine sr_iload (pc' := 78) dX9_isFree_76 rfl rfl ?_
        refine sr_iconst (pc' := 79) dX9_isFree_78 rfl (by decide) ?_
        refine sr_callV2_I (pc' := 82) (mod_of_sp x4 1 μ) dX9_isFree_79 rfl mg_X9_of mi_X9_of (Or.inl ⟨9, _, TX9, 40, s88_61, rfl⟩) ⟨Nat.le_of_ble_eq_true rfl, Nat.le_of_ble_eq_true rfl⟩ w_314 (Nat.le_of_ble_eq_true rfl) (fun u2 hu2 hcu2 hzu2 => ?_)
        refine sr_aload_n (i := 0) (pc' := 83) dX9_isFree_82 rfl rfl rfl ?_
        refine sr_iload_n (i := 1) (pc' := 84) dX9_isFree_83 rfl rfl rfl ?_
        refine sr_iconst (pc' := 85) dX9_isFree_84 rfl (by decide) ?_
        refine sr_callV2_I (pc' := 88) (mod_of_sp x1 1 μ) dX9_isFree_85 rfl mg_X9_of mi_X9_of (Or.inl ⟨9, _, TX9, 40, s88_61, rfl⟩) ⟨Nat.le_of_ble_eq_true rfl, Nat.le_of_ble_eq_true rfl⟩ w_314 (Nat.le_of_ble_eq_true rfl) (fun u3 hu3 hcu3 hzu3 => ?_)
        refine sr_icmp_eq (pc' := 91) (tgt := 95) dX9_isFree_88 rfl rfl (fun c88 => ?_) (fun c88 => ?_)
        · refine sr_iconst (pc' := 96) dX9_isFree_95 rfl (by decide) ?_
          refine sr_fgt (fgt_s (fgt_s (fgt_s (fgt_n (fgt_s (fgt_n fgt_nil)))))) ?_
          exact mod_isFree_96_s μ hk5 x1 x2 x4 0
        · refine sr_iconst (pc' := 92) dX9_isFree_91 rfl (by decide) ?_
          refine sr_goto (pc' := 96) dX9_isFree_92 rfl ?_
          refine sr_fgt (fgt_s (fgt_s (fgt_s (fgt_n (fgt_s (fgt_n fgt_nil)))))) ?_
          exact mod_isFree_96_s μ hk5 x1 x2 x4 1
      · refine sr_iconst (pc' := 96) dX9_isFree_95 rfl (by decide) ?_
        refine sr_fgt (fgt_s (fgt_s (fgt_s (fgt_n (fgt_s (fgt_n fgt_nil)))))) ?_
        exact mod_isFree_96_s μ hk5 x1 x2 x4 0
def mod_isFree_5 (μ : Mem)  : Nat → Int → Int → Int → Int → Option (Int)
  | 0, _, _, _, _ => none
  | n + 1, x1, x2, x3, x4 => if (μ 62 0) ≤ x4 then (some (zN x3)) else (if x4 = x1 then (mod_isFree_55 μ (mod_isFree_5 μ n) x1 x2 x3 x4 0) else ((ld μ 75 5 x4).bind fun v1 => if v1 = x2 then ((ld μ 75 5 x4).bind fun v2 => (mod_of μ x4 5).bind fun u3 => if v2 = u3 then (mod_isFree_55 μ (mod_isFree_5 μ n) x1 x2 x3 x4 0) else (mod_isFree_55 μ (mod_isFree_5 μ n) x1 x2 x3 x4 1)) else (mod_isFree_55 μ (mod_isFree_5 μ n) x1 x2 x3 x4 0)))
theorem mod_isFree_5_s {l : Launch} {G : Nv}   (μ : Mem)   : ∀ (n : Nat) (x1 x2 x3 x4 : Int), SR l G S88 mX9_isFree (mod_isFree_5 μ n x1 x2 x3 x4) (jI μ) 5 [some (vR 61), some (vI x1), some (vI x2), some (vI x3), some (vI x4), none] [] μ := by
  intro n
  induction n with
  | zero => intro x1 x2 x3 x4; exact sr_none
  | succ n ih =>
    intro x1 x2 x3 x4
    rw [mod_isFree_5.eq_2]
    refine sr_iload (pc' := 7) dX9_isFree_5 rfl rfl ?_
    refine sr_aload_n (i := 0) (pc' := 8) dX9_isFree_7 rfl rfl rfl ?_
    refine sr_getR (k := 0) (b := 62) (pc' := 11) cls_X9 dX9_isFree_8 rfl s88_61 rfl (by decide) w_311 ?_
    refine sr_iconst (pc' := 12) dX9_isFree_11 rfl (by decide) ?_
    refine sr_ialdc (j := 0) (pc' := 13) dX9_isFree_12 rfl s88_62 (by decide) (by decide) (by decide) rfl ?_
    refine sr_icmp_ge (pc' := 16) (tgt := 103) dX9_isFree_13 rfl rfl (fun c13 => ?_) (fun c13 => ?_)
    · refine sr_iload_n (i := 3) (pc' := 104) dX9_isFree_103 rfl rfl rfl ?_
      exact sr_iretN dX9_isFree_104 rfl rfl
    · refine sr_iload (pc' := 18) dX9_isFree_16 rfl rfl ?_
      refine sr_iload_n (i := 1) (pc' := 19) dX9_isFree_18 rfl rfl rfl ?_
      refine sr_icmp_eq (pc' := 22) (tgt := 54) dX9_isFree_19 rfl rfl (fun c19 => ?_) (fun c19 => ?_)
      · refine sr_iconst (pc' := 55) dX9_isFree_54 rfl (by decide) ?_
        exact mod_isFree_55_s μ ih x1 x2 x3 x4 0
      · refine sr_aload_n (i := 0) (pc' := 23) dX9_isFree_22 rfl rfl rfl ?_
        refine sr_getR (k := 25) (b := 75) (pc' := 26) cls_X9 dX9_isFree_23 rfl s88_61 rfl (by decide) w_313 ?_
        refine sr_iload (pc' := 28) dX9_isFree_26 rfl rfl ?_
        refine sr_iald (pc' := 29) dX9_isFree_28 rfl s88_75 (by decide) (fun v1 hv1 hv1a hv1b => ?_)
        refine sr_iload_n (i := 2) (pc' := 30) dX9_isFree_29 rfl rfl rfl ?_
        refine sr_icmp_ne (pc' := 33) (tgt := 54) dX9_isFree_30 rfl rfl (fun c30 => ?_) (fun c30 => ?_)
        · refine sr_aload_n (i := 0) (pc' := 34) dX9_isFree_33 rfl rfl rfl ?_
          refine sr_getR (k := 25) (b := 75) (pc' := 37) cls_X9 dX9_isFree_34 rfl s88_61 rfl (by decide) w_313 ?_
          refine sr_iload (pc' := 39) dX9_isFree_37 rfl rfl ?_
          refine sr_iald (pc' := 40) dX9_isFree_39 rfl s88_75 (by decide) (fun v2 hv2 hv2a hv2b => ?_)
          refine sr_aload_n (i := 0) (pc' := 41) dX9_isFree_40 rfl rfl rfl ?_
          refine sr_iload (pc' := 43) dX9_isFree_41 rfl rfl ?_
          refine sr_iconst (pc' := 44) dX9_isFree_43 rfl (by decide) ?_
          refine sr_callV2_I (pc' := 47) (mod_of_sp x4 5 μ) dX9_isFree_44 rfl mg_X9_of mi_X9_of (Or.inl ⟨9, _, TX9, 40, s88_61, rfl⟩) ⟨Nat.le_of_ble_eq_true rfl, Nat.le_of_ble_eq_true rfl⟩ w_314 (Nat.le_of_ble_eq_true rfl) (fun u3 hu3 hcu3 hzu3 => ?_)
          refine sr_icmp_eq (pc' := 50) (tgt := 54) dX9_isFree_47 rfl rfl (fun c47 => ?_) (fun c47 => ?_)
          · refine sr_iconst (pc' := 55) dX9_isFree_54 rfl (by decide) ?_
            exact mod_isFree_55_s μ ih x1 x2 x3 x4 0
          · refine sr_iconst (pc' := 51) dX9_isFree_50 rfl (by decide) ?_
            refine sr_goto (pc' := 55) dX9_isFree_51 rfl ?_
            exact mod_isFree_55_s μ ih x1 x2 x3 x4 1
        · refine sr_iconst (pc' := 55) dX9_isFree_54 rfl (by decide) ?_
          exact mod_isFree_55_s μ ih x1 x2 x3 x4 0
def mod_isFree (μ : Mem)  (x1 x2 : Int) : Option (Int) := mod_isFree_5 μ BIG x1 x2 1 0
theorem mod_isFree_sp {l : Launch} {G : Nv}   (x1 x2 : Int) (μ : Mem) : SP l G S88 mX9_isFree [vR 61, vI x1, vI x2] μ (mod_isFree μ x1 x2) (jI μ) := by
  refine sp_go (lv := [some (vR 61), some (vI x1), some (vI x2), none, none, none]) pn_X9 (Nat.le_of_ble_eq_true rfl) rfl ?_
  unfold mod_isFree
  refine sr_iconst (pc' := 1) dX9_isFree_0 rfl (by decide) ?_
  refine sr_istore_n (i := 3) (lv' := [some (vR 61), some (vI x1), some (vI x2), some (vI 1), none, none]) (pc' := 2) dX9_isFree_1 rfl rfl (by decide) rfl ?_
  refine sr_iconst (pc' := 3) dX9_isFree_2 rfl (by decide) ?_
  refine sr_istore (lv' := [some (vR 61), some (vI x1), some (vI x2), some (vI 1), some (vI 0), none]) (pc' := 5) dX9_isFree_3 rfl (by decide) rfl ?_
  exact mod_isFree_5_s μ BIG x1 x2 1 0
def mod_goesCart_153   (x1 : Int) (μ : Mem) : Option (Mem) := (ld μ 77 5 x1).bind fun v1 => (stx μ 77 5 x1 (wI (v1 + 1))).bind fun μ2 => bnd (mset μ2 61 31 (iOr (μ2 61 31) (iShl 1 x1))) fun μ3 => some μ3
theorem mod_goesCart_153_s {l : Launch} {G : Nv}     : ∀ (x1 : Int) (μ : Mem), SR l G S88 mX9_goesCart (mod_goesCart_153 x1 μ) jM 153 [some (vR 61), some (vI x1), none, none, none, none, none, none] [] μ := by
  intro x1 μ
  unfold mod_goesCart_153
  refine sr_aload_n (i := 0) (pc' := 154) dX9_goesCart_153 rfl rfl rfl ?_
  refine sr_getR (k := 27) (b := 77) (pc' := 157) cls_X9 dX9_goesCart_154 rfl s88_61 rfl (by decide) w_316 ?_
  refine sr_iload_n (i := 1) (pc' := 158) dX9_goesCart_157 rfl rfl rfl ?_
  refine sr_dup2 (pc' := 159) dX9_goesCart_158 rfl rfl rfl ?_
  refine sr_iald (pc' := 160) dX9_goesCart_159 rfl s88_77 (by decide) (fun v1 hv1 hv1a hv1b => ?_)
  refine sr_iconst (pc' := 161) dX9_goesCart_160 rfl (by decide) ?_
  refine sr_iadd (pc' := 162) dX9_goesCart_161 rfl ?_
  refine sr_iast (pc' := 163) dX9_goesCart_162 rfl s88_77 (by decide) (fun μ2 hμ2 hμ2a hμ2b => ?_)
  refine sr_aload_n (i := 0) (pc' := 164) dX9_goesCart_163 rfl rfl rfl ?_
  refine sr_dup (pc' := 165) dX9_goesCart_164 rfl rfl ?_
  refine sr_getI (k := 31) (pc' := 168) cls_X9 dX9_goesCart_165 rfl s88_61 rfl (by decide) w_320 ?_
  refine sr_iconst (pc' := 169) dX9_goesCart_168 rfl (by decide) ?_
  refine sr_iload_n (i := 1) (pc' := 170) dX9_goesCart_169 rfl rfl rfl ?_
  refine sr_ishl (pc' := 171) dX9_goesCart_170 rfl ?_
  refine sr_ior (pc' := 172) dX9_goesCart_171 rfl ?_
  refine sr_putI (k := 31) (pc' := 175) cls_X9 dX9_goesCart_172 rfl s88_61 rfl (by decide) w_320 rfl rfl (fun μ3 hμ3 => ?_)
  exact sr_ret dX9_goesCart_175 rfl rfl
def mod_goesCart_310   (s1 s2 : Int) (μ : Mem) : Option (Mem) := (stx μ 78 5 s1 s2).bind fun μ1 => some μ1
theorem mod_goesCart_310_s {l : Launch} {G : Nv}     : ∀ (s1 s2 : Int) (μ : Mem), SR l G S88 mX9_goesCart (mod_goesCart_310 s1 s2 μ) jM 310 [none, none, none, none, none, none, none, none] [vI s2, vI s1, vR 78] μ := by
  intro s1 s2 μ
  unfold mod_goesCart_310
  refine sr_iast (pc' := 311) dX9_goesCart_310 rfl s88_78 (by decide) (fun μ1 hμ1 hμ1a hμ1b => ?_)
  exact sr_ret dX9_goesCart_311 rfl rfl
def mod_goesCart_286   (x1 x2 x4 s1 s2 s3 : Int) (μ : Mem) : Option (Mem) := (stx μ 76 5 s1 (wI (s2 + s3))).bind fun μ1 => (mod_of μ1 x1 5).bind fun u2 => if x4 = u2 then (mod_goesCart_310 x1 x2 μ1) else (mod_goesCart_310 x1 (-4) μ1)
theorem mod_goesCart_286_s {l : Launch} {G : Nv}     : ∀ (x1 x2 x4 s1 s2 s3 : Int) (μ : Mem), SR l G S88 mX9_goesCart (mod_goesCart_286 x1 x2 x4 s1 s2 s3 μ) jM 286 [some (vR 61), some (vI x1), some (vI x2), none, some (vI x4), none, none, none] [vI s3, vI s2, vI s1, vR 76] μ := by
  intro x1 x2 x4 s1 s2 s3 μ
  unfold mod_goesCart_286
  refine sr_iadd (pc' := 287) dX9_goesCart_286 rfl ?_
  refine sr_iast (pc' := 288) dX9_goesCart_287 rfl s88_76 (by decide) (fun μ1 hμ1 hμ1a hμ1b => ?_)
  refine sr_aload_n (i := 0) (pc' := 289) dX9_goesCart_288 rfl rfl rfl ?_
  refine sr_getR (k := 28) (b := 78) (pc' := 292) cls_X9 dX9_goesCart_289 rfl s88_61 rfl (by decide) w_317 ?_
  refine sr_iload_n (i := 1) (pc' := 293) dX9_goesCart_292 rfl rfl rfl ?_
  refine sr_iload (pc' := 295) dX9_goesCart_293 rfl rfl ?_
  refine sr_aload_n (i := 0) (pc' := 296) dX9_goesCart_295 rfl rfl rfl ?_
  refine sr_iload_n (i := 1) (pc' := 297) dX9_goesCart_296 rfl rfl rfl ?_
  refine sr_iconst (pc' := 298) dX9_goesCart_297 rfl (by decide) ?_
  refine sr_callV2_I (pc' := 301) (mod_of_sp x1 5 μ1) dX9_goesCart_298 rfl mg_X9_of mi_X9_of (Or.inl ⟨9, _, TX9, 40, s88_61, rfl⟩) ⟨Nat.le_of_ble_eq_true rfl, Nat.le_of_ble_eq_true rfl⟩ w_314 (Nat.le_of_ble_eq_true rfl) (fun u2 hu2 hcu2 hzu2 => ?_)
  refine sr_icmp_ne (pc' := 304) (tgt := 308) dX9_goesCart_301 rfl rfl (fun c301 => ?_) (fun c301 => ?_)
  · refine sr_iload_n (i := 2) (pc' := 305) dX9_goesCart_304 rfl rfl rfl ?_
    refine sr_goto (pc' := 310) dX9_goesCart_305 rfl ?_
    refine sr_fgt (fgt_n (fgt_n (fgt_n (fgt_s (fgt_n (fgt_s (fgt_s (fgt_s fgt_nil)))))))) ?_
    exact mod_goesCart_310_s x1 x2 μ1
  · refine sr_bipush (pc' := 310) dX9_goesCart_308 rfl (by decide) (by decide) ?_
    refine sr_fgt (fgt_n (fgt_n (fgt_n (fgt_s (fgt_n (fgt_s (fgt_s (fgt_s fgt_nil)))))))) ?_
    exact mod_goesCart_310_s x1 (-4) μ1
def mod_goesCart_257   (x1 x2 x4 x5 s1 s2 : Int) (μ : Mem) : Option (Mem) := (stx μ 79 63 s1 s2).bind fun μ1 => (ld μ1 76 5 x1).bind fun v2 => (mod_of μ1 x1 0).bind fun u3 => if u3 = 4 then (mod_goesCart_286 x1 x2 x4 x1 v2 0 μ1) else ((ld μ1 67 63 x5).bind fun v4 => mod_goesCart_286 x1 x2 x4 x1 v2 v4 μ1)
theorem mod_goesCart_257_s {l : Launch} {G : Nv}     : ∀ (x1 x2 x4 x5 s1 s2 : Int) (μ : Mem), SR l G S88 mX9_goesCart (mod_goesCart_257 x1 x2 x4 x5 s1 s2 μ) jM 257 [some (vR 61), some (vI x1), some (vI x2), none, some (vI x4), some (vI x5), none, none] [vI s2, vI s1, vR 79] μ := by
  intro x1 x2 x4 x5 s1 s2 μ
  unfold mod_goesCart_257
  refine sr_iast (pc' := 258) dX9_goesCart_257 rfl s88_79 (by decide) (fun μ1 hμ1 hμ1a hμ1b => ?_)
  refine sr_aload_n (i := 0) (pc' := 259) dX9_goesCart_258 rfl rfl rfl ?_
  refine sr_getR (k := 26) (b := 76) (pc' := 262) cls_X9 dX9_goesCart_259 rfl s88_61 rfl (by decide) w_315 ?_
  refine sr_iload_n (i := 1) (pc' := 263) dX9_goesCart_262 rfl rfl rfl ?_
  refine sr_dup2 (pc' := 264) dX9_goesCart_263 rfl rfl rfl ?_
  refine sr_iald (pc' := 265) dX9_goesCart_264 rfl s88_76 (by decide) (fun v2 hv2 hv2a hv2b => ?_)
  refine sr_aload_n (i := 0) (pc' := 266) dX9_goesCart_265 rfl rfl rfl ?_
  refine sr_iload_n (i := 1) (pc' := 267) dX9_goesCart_266 rfl rfl rfl ?_
  refine sr_iconst (pc' := 268) dX9_goesCart_267 rfl (by decide) ?_
  refine sr_callV2_I (pc' := 271) (mod_of_sp x1 0 μ1) dX9_goesCart_268 rfl mg_X9_of mi_X9_of (Or.inl ⟨9, _, TX9, 40, s88_61, rfl⟩) ⟨Nat.le_of_ble_eq_true rfl, Nat.le_of_ble_eq_true rfl⟩ w_314 (Nat.le_of_ble_eq_true rfl) (fun u3 hu3 hcu3 hzu3 => ?_)
  refine sr_iconst (pc' := 272) dX9_goesCart_271 rfl (by decide) ?_
  refine sr_icmp_ne (pc' := 275) (tgt := 279) dX9_goesCart_272 rfl rfl (fun c272 => ?_) (fun c272 => ?_)
  · refine sr_iconst (pc' := 276) dX9_goesCart_275 rfl (by decide) ?_
    refine sr_goto (pc' := 286) dX9_goesCart_276 rfl ?_
    refine sr_fgt (fgt_s (fgt_s (fgt_s (fgt_s (fgt_s (fgt_n (fgt_s (fgt_s fgt_nil)))))))) ?_
    exact mod_goesCart_286_s x1 x2 x4 x1 v2 0 μ1
  · refine sr_aload_n (i := 0) (pc' := 280) dX9_goesCart_279 rfl rfl rfl ?_
    refine sr_getR (k := 6) (b := 67) (pc' := 283) cls_X9 dX9_goesCart_280 rfl s88_61 rfl (by decide) w_321 ?_
    refine sr_iload (pc' := 285) dX9_goesCart_283 rfl rfl ?_
    refine sr_iald (pc' := 286) dX9_goesCart_285 rfl s88_67 (by decide) (fun v4 hv4 hv4a hv4b => ?_)
    refine sr_fgt (fgt_s (fgt_s (fgt_s (fgt_s (fgt_s (fgt_n (fgt_s (fgt_s fgt_nil)))))))) ?_
    exact mod_goesCart_286_s x1 x2 x4 x1 v2 v4 μ1
def mod_goesCart_219   (x1 x2 x4 x5 s0 : Int) (μ : Mem) : Option (Mem) := (ld μ 79 63 x5).bind fun v1 => if (wI (v1 + s0)) ≤ 99 then ((ld μ 79 63 x5).bind fun v2 => mod_goesCart_257 x1 x2 x4 x5 x5 (wI (v2 + s0)) μ) else (mod_goesCart_257 x1 x2 x4 x5 x5 99 μ)
theorem mod_goesCart_219_s {l : Launch} {G : Nv}     : ∀ (x1 x2 x4 x5 s0 : Int) (μ : Mem), SR l G S88 mX9_goesCart (mod_goesCart_219 x1 x2 x4 x5 s0 μ) jM 219 [some (vR 61), some (vI x1), some (vI x2), none, some (vI x4), some (vI x5), none, none] [vI s0] μ := by
  intro x1 x2 x4 x5 s0 μ
  unfold mod_goesCart_219
  refine sr_istore (lv' := [some (vR 61), some (vI x1), some (vI x2), none, some (vI x4), some (vI x5), none, some (vI s0)]) (pc' := 221) dX9_goesCart_219 rfl (by decide) rfl ?_
  refine sr_aload_n (i := 0) (pc' := 222) dX9_goesCart_221 rfl rfl rfl ?_
  refine sr_getR (k := 29) (b := 79) (pc' := 225) cls_X9 dX9_goesCart_222 rfl s88_61 rfl (by decide) w_312 ?_
  refine sr_iload (pc' := 227) dX9_goesCart_225 rfl rfl ?_
  refine sr_aload_n (i := 0) (pc' := 228) dX9_goesCart_227 rfl rfl rfl ?_
  refine sr_getR (k := 29) (b := 79) (pc' := 231) cls_X9 dX9_goesCart_228 rfl s88_61 rfl (by decide) w_312 ?_
  refine sr_iload (pc' := 233) dX9_goesCart_231 rfl rfl ?_
  refine sr_iald (pc' := 234) dX9_goesCart_233 rfl s88_79 (by decide) (fun v1 hv1 hv1a hv1b => ?_)
  refine sr_iload (pc' := 236) dX9_goesCart_234 rfl rfl ?_
  refine sr_iadd (pc' := 237) dX9_goesCart_236 rfl ?_
  refine sr_bipush (pc' := 239) dX9_goesCart_237 rfl (by decide) (by decide) ?_
  refine sr_icmp_le (pc' := 242) (tgt := 247) dX9_goesCart_239 rfl rfl (fun c239 => ?_) (fun c239 => ?_)
  · refine sr_aload_n (i := 0) (pc' := 248) dX9_goesCart_247 rfl rfl rfl ?_
    refine sr_getR (k := 29) (b := 79) (pc' := 251) cls_X9 dX9_goesCart_248 rfl s88_61 rfl (by decide) w_312 ?_
    refine sr_iload (pc' := 253) dX9_goesCart_251 rfl rfl ?_
    refine sr_iald (pc' := 254) dX9_goesCart_253 rfl s88_79 (by decide) (fun v2 hv2 hv2a hv2b => ?_)
    refine sr_iload (pc' := 256) dX9_goesCart_254 rfl rfl ?_
    refine sr_iadd (pc' := 257) dX9_goesCart_256 rfl ?_
    refine sr_fgt (fgt_s (fgt_s (fgt_s (fgt_s (fgt_s (fgt_s (fgt_s (fgt_n fgt_nil)))))))) ?_
    exact mod_goesCart_257_s x1 x2 x4 x5 x5 (wI (v2 + s0)) μ
  · refine sr_bipush (pc' := 244) dX9_goesCart_242 rfl (by decide) (by decide) ?_
    refine sr_goto (pc' := 257) dX9_goesCart_244 rfl ?_
    refine sr_fgt (fgt_s (fgt_s (fgt_s (fgt_s (fgt_s (fgt_s (fgt_s (fgt_n fgt_nil)))))))) ?_
    exact mod_goesCart_257_s x1 x2 x4 x5 x5 99 μ
def mod_goesCart_136   (x1 x2 x3 x4 x5 s0 : Int) (μ : Mem) : Option (Mem) := if s0 = 0 then (mod_goesCart_153 x1 μ) else ((mod_isFree μ x1 x4).bind fun u1 => if u1 = 0 then (mod_goesCart_153 x1 μ) else ((stx μ 75 5 x1 x4).bind fun μ2 => if x3 = 0 then ((mod_of μ2 x1 0).bind fun u3 => if u3 = 1 then ((mod_of μ2 x1 2).bind fun u4 => mod_goesCart_219 x1 x2 x4 x5 (wI (2 * u4)) μ2) else ((mod_of μ2 x1 2).bind fun u5 => mod_goesCart_219 x1 x2 x4 x5 u5 μ2)) else (mod_goesCart_219 x1 x2 x4 x5 0 μ2)))
theorem mod_goesCart_136_s {l : Launch} {G : Nv}     : ∀ (x1 x2 x3 x4 x5 s0 : Int) (μ : Mem), SR l G S88 mX9_goesCart (mod_goesCart_136 x1 x2 x3 x4 x5 s0 μ) jM 136 [some (vR 61), some (vI x1), some (vI x2), some (vI x3), some (vI x4), some (vI x5), none, none] [vI s0] μ := by
  intro x1 x2 x3 x4 x5 s0 μ
  unfold mod_goesCart_136
  refine sr_istore (lv' := [some (vR 61), some (vI x1), some (vI x2), some (vI x3), some (vI x4), some (vI x5), some (vI s0), none]) (pc' := 138) dX9_goesCart_136 rfl (by decide) rfl ?_
  refine sr_iload (pc' := 140) dX9_goesCart_138 rfl rfl ?_
  refine sr_if_eq (pc' := 143) (tgt := 153) dX9_goesCart_140 rfl rfl (fun c140 => ?_) (fun c140 => ?_)
  · refine sr_fgt (fgt_s (fgt_s (fgt_n (fgt_n (fgt_n (fgt_n (fgt_n (fgt_s fgt_nil)))))))) ?_
    exact mod_goesCart_153_s x1 μ
  · refine sr_aload_n (i := 0) (pc' := 144) dX9_goesCart_143 rfl rfl rfl ?_
    refine sr_iload_n (i := 1) (pc' := 145) dX9_goesCart_144 rfl rfl rfl ?_
    refine sr_iload (pc' := 147) dX9_goesCart_145 rfl rfl ?_
    refine sr_callV2_I (pc' := 150) (mod_isFree_sp x1 x4 μ) dX9_goesCart_147 rfl mg_X9_isFree mi_X9_isFree (Or.inl ⟨9, _, TX9, 40, s88_61, rfl⟩) ⟨Nat.le_of_ble_eq_true rfl, Nat.le_of_ble_eq_true rfl⟩ w_322 (Nat.le_of_ble_eq_true rfl) (fun u1 hu1 hcu1 hzu1 => ?_)
    refine sr_if_ne (pc' := 153) (tgt := 176) dX9_goesCart_150 rfl rfl (fun c150 => ?_) (fun c150 => ?_)
    · refine sr_fgt (fgt_s (fgt_s (fgt_n (fgt_n (fgt_n (fgt_n (fgt_n (fgt_s fgt_nil)))))))) ?_
      exact mod_goesCart_153_s x1 μ
    · refine sr_aload_n (i := 0) (pc' := 177) dX9_goesCart_176 rfl rfl rfl ?_
      refine sr_getR (k := 25) (b := 75) (pc' := 180) cls_X9 dX9_goesCart_177 rfl s88_61 rfl (by decide) w_313 ?_
      refine sr_iload_n (i := 1) (pc' := 181) dX9_goesCart_180 rfl rfl rfl ?_
      refine sr_iload (pc' := 183) dX9_goesCart_181 rfl rfl ?_
      refine sr_iast (pc' := 184) dX9_goesCart_183 rfl s88_75 (by decide) (fun μ2 hμ2 hμ2a hμ2b => ?_)
      refine sr_iload_n (i := 3) (pc' := 185) dX9_goesCart_184 rfl rfl rfl ?_
      refine sr_if_eq (pc' := 188) (tgt := 192) dX9_goesCart_185 rfl rfl (fun c185 => ?_) (fun c185 => ?_)
      · refine sr_aload_n (i := 0) (pc' := 193) dX9_goesCart_192 rfl rfl rfl ?_
        refine sr_iload_n (i := 1) (pc' := 194) dX9_goesCart_193 rfl rfl rfl ?_
        refine sr_iconst (pc' := 195) dX9_goesCart_194 rfl (by decide) ?_
        refine sr_callV2_I (pc' := 198) (mod_of_sp x1 0 μ2) dX9_goesCart_195 rfl mg_X9_of mi_X9_of (Or.inl ⟨9, _, TX9, 40, s88_61, rfl⟩) ⟨Nat.le_of_ble_eq_true rfl, Nat.le_of_ble_eq_true rfl⟩ w_314 (Nat.le_of_ble_eq_true rfl) (fun u3 hu3 hcu3 hzu3 => ?_)
        refine sr_iconst (pc' := 199) dX9_goesCart_198 rfl (by decide) ?_
        refine sr_icmp_ne (pc' := 202) (tgt := 213) dX9_goesCart_199 rfl rfl (fun c199 => ?_) (fun c199 => ?_)
        · refine sr_iconst (pc' := 203) dX9_goesCart_202 rfl (by decide) ?_
          refine sr_aload_n (i := 0) (pc' := 204) dX9_goesCart_203 rfl rfl rfl ?_
          refine sr_iload_n (i := 1) (pc' := 205) dX9_goesCart_204 rfl rfl rfl ?_
          refine sr_iconst (pc' := 206) dX9_goesCart_205 rfl (by decide) ?_
          refine sr_callV2_I (pc' := 209) (mod_of_sp x1 2 μ2) dX9_goesCart_206 rfl mg_X9_of mi_X9_of (Or.inl ⟨9, _, TX9, 40, s88_61, rfl⟩) ⟨Nat.le_of_ble_eq_true rfl, Nat.le_of_ble_eq_true rfl⟩ w_314 (Nat.le_of_ble_eq_true rfl) (fun u4 hu4 hcu4 hzu4 => ?_)
          refine sr_imul (pc' := 210) dX9_goesCart_209 rfl ?_
          refine sr_goto (pc' := 219) dX9_goesCart_210 rfl ?_
          refine sr_fgt (fgt_s (fgt_s (fgt_s (fgt_n (fgt_s (fgt_s (fgt_n (fgt_s fgt_nil)))))))) ?_
          exact mod_goesCart_219_s x1 x2 x4 x5 (wI (2 * u4)) μ2
        · refine sr_aload_n (i := 0) (pc' := 214) dX9_goesCart_213 rfl rfl rfl ?_
          refine sr_iload_n (i := 1) (pc' := 215) dX9_goesCart_214 rfl rfl rfl ?_
          refine sr_iconst (pc' := 216) dX9_goesCart_215 rfl (by decide) ?_
          refine sr_callV2_I (pc' := 219) (mod_of_sp x1 2 μ2) dX9_goesCart_216 rfl mg_X9_of mi_X9_of (Or.inl ⟨9, _, TX9, 40, s88_61, rfl⟩) ⟨Nat.le_of_ble_eq_true rfl, Nat.le_of_ble_eq_true rfl⟩ w_314 (Nat.le_of_ble_eq_true rfl) (fun u5 hu5 hcu5 hzu5 => ?_)
          refine sr_fgt (fgt_s (fgt_s (fgt_s (fgt_n (fgt_s (fgt_s (fgt_n (fgt_s fgt_nil)))))))) ?_
          exact mod_goesCart_219_s x1 x2 x4 x5 u5 μ2
      · refine sr_iconst (pc' := 189) dX9_goesCart_188 rfl (by decide) ?_
        refine sr_goto (pc' := 219) dX9_goesCart_189 rfl ?_
        refine sr_fgt (fgt_s (fgt_s (fgt_s (fgt_n (fgt_s (fgt_s (fgt_n (fgt_s fgt_nil)))))))) ?_
        exact mod_goesCart_219_s x1 x2 x4 x5 0 μ2
def mod_goesCart_80   (x1 x2 x3 s0 s1 : Int) (μ : Mem) : Option (Mem) := bnd (wI (s0 + s1)) fun v1 => (mod_of μ x1 1).bind fun u2 => bnd (wI ((wI (3 * v1)) + u2)) fun v3 => if x3 = 0 then ((mod_of μ x1 1).bind fun u4 => (mod_hasRut μ v1 u4).bind fun u5 => if u5 = 0 then (mod_goesCart_136 x1 x2 x3 v1 v3 0 μ) else ((ld μ 79 63 v3).bind fun v6 => (mod_of μ x1 3).bind fun u7 => if u7 < v6 then (mod_goesCart_136 x1 x2 x3 v1 v3 0 μ) else (mod_goesCart_136 x1 x2 x3 v1 v3 1 μ))) else (mod_goesCart_136 x1 x2 x3 v1 v3 1 μ)
theorem mod_goesCart_80_s {l : Launch} {G : Nv}     : ∀ (x1 x2 x3 s0 s1 : Int) (μ : Mem), SR l G S88 mX9_goesCart (mod_goesCart_80 x1 x2 x3 s0 s1 μ) jM 80 [some (vR 61), some (vI x1), some (vI x2), some (vI x3), none, none, none, none] [vI s1, vI s0] μ := by
  intro x1 x2 x3 s0 s1 μ
  unfold mod_goesCart_80
  refine sr_iadd (pc' := 81) dX9_goesCart_80 rfl ?_
  refine sr_bnd (fun v1 hv1 => ?_)
  refine sr_istore (lv' := [some (vR 61), some (vI x1), some (vI x2), some (vI x3), some (vI v1), none, none, none]) (pc' := 83) dX9_goesCart_81 rfl (by decide) rfl ?_
  refine sr_iconst (pc' := 84) dX9_goesCart_83 rfl (by decide) ?_
  refine sr_iload (pc' := 86) dX9_goesCart_84 rfl rfl ?_
  refine sr_imul (pc' := 87) dX9_goesCart_86 rfl ?_
  refine sr_aload_n (i := 0) (pc' := 88) dX9_goesCart_87 rfl rfl rfl ?_
  refine sr_iload_n (i := 1) (pc' := 89) dX9_goesCart_88 rfl rfl rfl ?_
  refine sr_iconst (pc' := 90) dX9_goesCart_89 rfl (by decide) ?_
  refine sr_callV2_I (pc' := 93) (mod_of_sp x1 1 μ) dX9_goesCart_90 rfl mg_X9_of mi_X9_of (Or.inl ⟨9, _, TX9, 40, s88_61, rfl⟩) ⟨Nat.le_of_ble_eq_true rfl, Nat.le_of_ble_eq_true rfl⟩ w_314 (Nat.le_of_ble_eq_true rfl) (fun u2 hu2 hcu2 hzu2 => ?_)
  refine sr_iadd (pc' := 94) dX9_goesCart_93 rfl ?_
  refine sr_bnd (fun v3 hv3 => ?_)
  refine sr_istore (lv' := [some (vR 61), some (vI x1), some (vI x2), some (vI x3), some (vI v1), some (vI v3), none, none]) (pc' := 96) dX9_goesCart_94 rfl (by decide) rfl ?_
  refine sr_iload_n (i := 3) (pc' := 97) dX9_goesCart_96 rfl rfl rfl ?_
  refine sr_if_ne (pc' := 100) (tgt := 131) dX9_goesCart_97 rfl rfl (fun c97 => ?_) (fun c97 => ?_)
  · refine sr_aload_n (i := 0) (pc' := 101) dX9_goesCart_100 rfl rfl rfl ?_
    refine sr_iload (pc' := 103) dX9_goesCart_101 rfl rfl ?_
    refine sr_aload_n (i := 0) (pc' := 104) dX9_goesCart_103 rfl rfl rfl ?_
    refine sr_iload_n (i := 1) (pc' := 105) dX9_goesCart_104 rfl rfl rfl ?_
    refine sr_iconst (pc' := 106) dX9_goesCart_105 rfl (by decide) ?_
    refine sr_callV2_I (pc' := 109) (mod_of_sp x1 1 μ) dX9_goesCart_106 rfl mg_X9_of mi_X9_of (Or.inl ⟨9, _, TX9, 40, s88_61, rfl⟩) ⟨Nat.le_of_ble_eq_true rfl, Nat.le_of_ble_eq_true rfl⟩ w_314 (Nat.le_of_ble_eq_true rfl) (fun u4 hu4 hcu4 hzu4 => ?_)
    refine sr_callV2_I (pc' := 112) (mod_hasRut_sp v1 u4 μ) dX9_goesCart_109 rfl mg_X9_hasRut mi_X9_hasRut (Or.inl ⟨9, _, TX9, 40, s88_61, rfl⟩) ⟨Nat.le_of_ble_eq_true rfl, Nat.le_of_ble_eq_true rfl⟩ w_323 (Nat.le_of_ble_eq_true rfl) (fun u5 hu5 hcu5 hzu5 => ?_)
    refine sr_if_eq (pc' := 115) (tgt := 135) dX9_goesCart_112 rfl rfl (fun c112 => ?_) (fun c112 => ?_)
    · refine sr_iconst (pc' := 136) dX9_goesCart_135 rfl (by decide) ?_
      exact mod_goesCart_136_s x1 x2 x3 v1 v3 0 μ
    · refine sr_aload_n (i := 0) (pc' := 116) dX9_goesCart_115 rfl rfl rfl ?_
      refine sr_getR (k := 29) (b := 79) (pc' := 119) cls_X9 dX9_goesCart_116 rfl s88_61 rfl (by decide) w_312 ?_
      refine sr_iload (pc' := 121) dX9_goesCart_119 rfl rfl ?_
      refine sr_iald (pc' := 122) dX9_goesCart_121 rfl s88_79 (by decide) (fun v6 hv6 hv6a hv6b => ?_)
      refine sr_aload_n (i := 0) (pc' := 123) dX9_goesCart_122 rfl rfl rfl ?_
      refine sr_iload_n (i := 1) (pc' := 124) dX9_goesCart_123 rfl rfl rfl ?_
      refine sr_iconst (pc' := 125) dX9_goesCart_124 rfl (by decide) ?_
      refine sr_callV2_I (pc' := 128) (mod_of_sp x1 3 μ) dX9_goesCart_125 rfl mg_X9_of mi_X9_of (Or.inl ⟨9, _, TX9, 40, s88_61, rfl⟩) ⟨Nat.le_of_ble_eq_true rfl, Nat.le_of_ble_eq_true rfl⟩ w_314 (Nat.le_of_ble_eq_true rfl) (fun u7 hu7 hcu7 hzu7 => ?_)
      refine sr_icmp_gt (pc' := 131) (tgt := 135) dX9_goesCart_128 rfl rfl (fun c128 => ?_) (fun c128 => ?_)
      · refine sr_iconst (pc' := 136) dX9_goesCart_135 rfl (by decide) ?_
        exact mod_goesCart_136_s x1 x2 x3 v1 v3 0 μ
      · refine sr_iconst (pc' := 132) dX9_goesCart_131 rfl (by decide) ?_
        refine sr_goto (pc' := 136) dX9_goesCart_132 rfl ?_
        exact mod_goesCart_136_s x1 x2 x3 v1 v3 1 μ
  · refine sr_iconst (pc' := 132) dX9_goesCart_131 rfl (by decide) ?_
    refine sr_goto (pc' := 136) dX9_goesCart_132 rfl ?_
    exact mod_goesCart_136_s x1 x2 x3 v1 v3 1 μ
def mod_goesCart_54   (x1 x2 x3 : Int) (μ : Mem) : Option (Mem) := (ld μ 75 5 x1).bind fun v1 => (mod_of μ x1 5).bind fun u2 => (ld μ 75 5 x1).bind fun v3 => if u2 ≤ v3 then (mod_goesCart_80 x1 x2 x3 v1 (-1) μ) else (mod_goesCart_80 x1 x2 x3 v1 1 μ)
theorem mod_goesCart_54_s {l : Launch} {G : Nv}     : ∀ (x1 x2 x3 : Int) (μ : Mem), SR l G S88 mX9_goesCart (mod_goesCart_54 x1 x2 x3 μ) jM 54 [some (vR 61), some (vI x1), some (vI x2), some (vI x3), none, none, none, none] [] μ := by
  intro x1 x2 x3 μ
  unfold mod_goesCart_54
  refine sr_aload_n (i := 0) (pc' := 55) dX9_goesCart_54 rfl rfl rfl ?_
  refine sr_getR (k := 25) (b := 75) (pc' := 58) cls_X9 dX9_goesCart_55 rfl s88_61 rfl (by decide) w_313 ?_
  refine sr_iload_n (i := 1) (pc' := 59) dX9_goesCart_58 rfl rfl rfl ?_
  refine sr_iald (pc' := 60) dX9_goesCart_59 rfl s88_75 (by decide) (fun v1 hv1 hv1a hv1b => ?_)
  refine sr_aload_n (i := 0) (pc' := 61) dX9_goesCart_60 rfl rfl rfl ?_
  refine sr_iload_n (i := 1) (pc' := 62) dX9_goesCart_61 rfl rfl rfl ?_
  refine sr_iconst (pc' := 63) dX9_goesCart_62 rfl (by decide) ?_
  refine sr_callV2_I (pc' := 66) (mod_of_sp x1 5 μ) dX9_goesCart_63 rfl mg_X9_of mi_X9_of (Or.inl ⟨9, _, TX9, 40, s88_61, rfl⟩) ⟨Nat.le_of_ble_eq_true rfl, Nat.le_of_ble_eq_true rfl⟩ w_314 (Nat.le_of_ble_eq_true rfl) (fun u2 hu2 hcu2 hzu2 => ?_)
  refine sr_aload_n (i := 0) (pc' := 67) dX9_goesCart_66 rfl rfl rfl ?_
  refine sr_getR (k := 25) (b := 75) (pc' := 70) cls_X9 dX9_goesCart_67 rfl s88_61 rfl (by decide) w_313 ?_
  refine sr_iload_n (i := 1) (pc' := 71) dX9_goesCart_70 rfl rfl rfl ?_
  refine sr_iald (pc' := 72) dX9_goesCart_71 rfl s88_75 (by decide) (fun v3 hv3 hv3a hv3b => ?_)
  refine sr_icmp_le (pc' := 75) (tgt := 79) dX9_goesCart_72 rfl rfl (fun c72 => ?_) (fun c72 => ?_)
  · refine sr_iconst (pc' := 80) dX9_goesCart_79 rfl (by decide) ?_
    exact mod_goesCart_80_s x1 x2 x3 v1 (-1) μ
  · refine sr_iconst (pc' := 76) dX9_goesCart_75 rfl (by decide) ?_
    refine sr_goto (pc' := 80) dX9_goesCart_76 rfl ?_
    exact mod_goesCart_80_s x1 x2 x3 v1 1 μ
def mod_goesCart_15   (x1 x2 s0 : Int) (μ : Mem) : Option (Mem) := (ld μ 75 5 x1).bind fun v1 => (mod_of μ x1 5).bind fun u2 => if v1 = u2 then (some μ) else ((mod_of μ x1 6).bind fun u3 => if x2 ≤ u3 then (some μ) else (if s0 = 0 then (mod_goesCart_54 x1 x2 s0 μ) else (if (iRem x2 2) = 1 then (some μ) else (mod_goesCart_54 x1 x2 s0 μ))))
theorem mod_goesCart_15_s {l : Launch} {G : Nv}     : ∀ (x1 x2 s0 : Int) (μ : Mem), SR l G S88 mX9_goesCart (mod_goesCart_15 x1 x2 s0 μ) jM 15 [some (vR 61), some (vI x1), some (vI x2), none, none, none, none, none] [vI s0] μ := by
  intro x1 x2 s0 μ
  unfold mod_goesCart_15
  refine sr_istore_n (i := 3) (lv' := [some (vR 61), some (vI x1), some (vI x2), some (vI s0), none, none, none, none]) (pc' := 16) dX9_goesCart_15 rfl rfl (by decide) rfl ?_
  refine sr_aload_n (i := 0) (pc' := 17) dX9_goesCart_16 rfl rfl rfl ?_
  refine sr_getR (k := 25) (b := 75) (pc' := 20) cls_X9 dX9_goesCart_17 rfl s88_61 rfl (by decide) w_313 ?_
  refine sr_iload_n (i := 1) (pc' := 21) dX9_goesCart_20 rfl rfl rfl ?_
  refine sr_iald (pc' := 22) dX9_goesCart_21 rfl s88_75 (by decide) (fun v1 hv1 hv1a hv1b => ?_)
  refine sr_aload_n (i := 0) (pc' := 23) dX9_goesCart_22 rfl rfl rfl ?_
  refine sr_iload_n (i := 1) (pc' := 24) dX9_goesCart_23 rfl rfl rfl ?_
  refine sr_iconst (pc' := 25) dX9_goesCart_24 rfl (by decide) ?_
  refine sr_callV2_I (pc' := 28) (mod_of_sp x1 5 μ) dX9_goesCart_25 rfl mg_X9_of mi_X9_of (Or.inl ⟨9, _, TX9, 40, s88_61, rfl⟩) ⟨Nat.le_of_ble_eq_true rfl, Nat.le_of_ble_eq_true rfl⟩ w_314 (Nat.le_of_ble_eq_true rfl) (fun u2 hu2 hcu2 hzu2 => ?_)
  refine sr_icmp_eq (pc' := 31) (tgt := 53) dX9_goesCart_28 rfl rfl (fun c28 => ?_) (fun c28 => ?_)
  · exact sr_ret dX9_goesCart_53 rfl rfl
  · refine sr_iload_n (i := 2) (pc' := 32) dX9_goesCart_31 rfl rfl rfl ?_
    refine sr_aload_n (i := 0) (pc' := 33) dX9_goesCart_32 rfl rfl rfl ?_
    refine sr_iload_n (i := 1) (pc' := 34) dX9_goesCart_33 rfl rfl rfl ?_
    refine sr_bipush (pc' := 36) dX9_goesCart_34 rfl (by decide) (by decide) ?_
    refine sr_callV2_I (pc' := 39) (mod_of_sp x1 6 μ) dX9_goesCart_36 rfl mg_X9_of mi_X9_of (Or.inl ⟨9, _, TX9, 40, s88_61, rfl⟩) ⟨Nat.le_of_ble_eq_true rfl, Nat.le_of_ble_eq_true rfl⟩ w_314 (Nat.le_of_ble_eq_true rfl) (fun u3 hu3 hcu3 hzu3 => ?_)
    refine sr_icmp_le (pc' := 42) (tgt := 53) dX9_goesCart_39 rfl rfl (fun c39 => ?_) (fun c39 => ?_)
    · exact sr_ret dX9_goesCart_53 rfl rfl
    · refine sr_iload_n (i := 3) (pc' := 43) dX9_goesCart_42 rfl rfl rfl ?_
      refine sr_if_eq (pc' := 46) (tgt := 54) dX9_goesCart_43 rfl rfl (fun c43 => ?_) (fun c43 => ?_)
      · exact mod_goesCart_54_s x1 x2 s0 μ
      · refine sr_iload_n (i := 2) (pc' := 47) dX9_goesCart_46 rfl rfl rfl ?_
        refine sr_iconst (pc' := 48) dX9_goesCart_47 rfl (by decide) ?_
        refine sr_irem (pc' := 49) dX9_goesCart_48 rfl (by decide) ?_
        refine sr_iconst (pc' := 50) dX9_goesCart_49 rfl (by decide) ?_
        refine sr_icmp_ne (pc' := 53) (tgt := 54) dX9_goesCart_50 rfl rfl (fun c50 => ?_) (fun c50 => ?_)
        · exact sr_ret dX9_goesCart_53 rfl rfl
        · exact mod_goesCart_54_s x1 x2 s0 μ
def mod_goesCart   (x1 x2 : Int) (μ : Mem) : Option (Mem) := (mod_of μ x1 0).bind fun u1 => if u1 = 2 then (mod_goesCart_15 x1 x2 1 μ) else (mod_goesCart_15 x1 x2 0 μ)
theorem mod_goesCart_sp {l : Launch} {G : Nv}   (x1 x2 : Int) (μ : Mem) : SP l G S88 mX9_goesCart [vR 61, vI x1, vI x2] μ (mod_goesCart x1 x2 μ) jM := by
  refine sp_go (lv := [some (vR 61), some (vI x1), some (vI x2), none, none, none, none, none]) pn_X9 (Nat.le_of_ble_eq_true rfl) rfl ?_
  unfold mod_goesCart
  refine sr_aload_n (i := 0) (pc' := 1) dX9_goesCart_0 rfl rfl rfl ?_
  refine sr_iload_n (i := 1) (pc' := 2) dX9_goesCart_1 rfl rfl rfl ?_
  refine sr_iconst (pc' := 3) dX9_goesCart_2 rfl (by decide) ?_
  refine sr_callV2_I (pc' := 6) (mod_of_sp x1 0 μ) dX9_goesCart_3 rfl mg_X9_of mi_X9_of (Or.inl ⟨9, _, TX9, 40, s88_61, rfl⟩) ⟨Nat.le_of_ble_eq_true rfl, Nat.le_of_ble_eq_true rfl⟩ w_314 (Nat.le_of_ble_eq_true rfl) (fun u1 hu1 hcu1 hzu1 => ?_)
  refine sr_iconst (pc' := 7) dX9_goesCart_6 rfl (by decide) ?_
  refine sr_icmp_ne (pc' := 10) (tgt := 14) dX9_goesCart_7 rfl rfl (fun c7 => ?_) (fun c7 => ?_)
  · refine sr_iconst (pc' := 11) dX9_goesCart_10 rfl (by decide) ?_
    refine sr_goto (pc' := 15) dX9_goesCart_11 rfl ?_
    exact mod_goesCart_15_s x1 x2 1 μ
  · refine sr_iconst (pc' := 15) dX9_goesCart_14 rfl (by decide) ?_
    exact mod_goesCart_15_s x1 x2 0 μ
