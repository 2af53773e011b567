def ww_at (a0 n0 : Nat) (μ : Mem)  (x1 : Int) : Option (Int) := if x1 < 0 then (some 0) else (if (n0 : Int) ≤ x1 then (some 0) else ((ld μ a0 n0 x1).bind fun v1 => some v1))
theorem ww_at_sp {l : Launch} {G : Nv} {Sh : Shp} {a0 n0 : Nat} (ha0 : Sh[a0]? = some (0, n0, [])) (hn0 : n0 < 2147483648) (x1 : Int) (μ : Mem) : SP l G Sh mX8_at [vR a0, vI x1] μ (ww_at a0 n0 μ x1) (jI μ) := by
  refine sp_go (lv := [some (vR a0), some (vI x1)]) pn_X8 (Nat.le_of_ble_eq_true rfl) rfl ?_
  unfold ww_at
  refine sr_iload_n (i := 1) (pc' := 1) dX8_at_0 rfl rfl rfl ?_
  refine sr_if_lt (pc' := 4) (tgt := 16) dX8_at_1 rfl rfl (fun c1 => ?_) (fun c1 => ?_)
  · refine sr_iconst (pc' := 17) dX8_at_16 rfl (by decide) ?_
    exact sr_iretI dX8_at_17 rfl rfl
  · refine sr_iload_n (i := 1) (pc' := 5) dX8_at_4 rfl rfl rfl ?_
    refine sr_aload_n (i := 0) (pc' := 6) dX8_at_5 rfl rfl rfl ?_
    refine sr_alen0 (pc' := 7) dX8_at_6 rfl ha0 hn0 ?_
    refine sr_icmp_ge (pc' := 10) (tgt := 16) dX8_at_7 rfl rfl (fun c7 => ?_) (fun c7 => ?_)
    · refine sr_iconst (pc' := 17) dX8_at_16 rfl (by decide) ?_
      exact sr_iretI dX8_at_17 rfl rfl
    · refine sr_aload_n (i := 0) (pc' := 11) dX8_at_10 rfl rfl rfl ?_
      refine sr_iload_n (i := 1) (pc' := 12) dX8_at_11 rfl rfl rfl ?_
      refine sr_iald (pc' := 13) dX8_at_12 rfl ha0 hn0 (fun v1 hv1 hv1a hv1b => ?_)
      refine sr_goto (pc' := 17) dX8_at_13 rfl ?_
      exact sr_iretI dX8_at_17 rfl rfl
def ww_isImage (μ : Mem)  (x0 : Int) : Option (Int) := if x0 = 0 then (some 1) else (if x0 = 1 then (some 1) else (some 0))
theorem ww_isImage_sp {l : Launch} {G : Nv} {Sh : Shp}   (x0 : Int) (μ : Mem) : SP l G Sh mX8_isImage [vI x0] μ (ww_isImage μ x0) (jI μ) := by
  refine sp_go (lv := [some (vI x0)]) pn_X8 (Nat.le_of_ble_eq_true rfl) rfl ?_
  unfold ww_isImage
  refine sr_iload_n (i := 0) (pc' := 1) dX8_isImage_0 rfl rfl rfl ?_
  refine sr_if_eq (pc' := 4) (tgt := 9) dX8_isImage_1 rfl rfl (fun c1 => ?_) (fun c1 => ?_)
  · refine sr_iconst (pc' := 10) dX8_isImage_9 rfl (by decide) ?_
    refine sr_goto (pc' := 14) dX8_isImage_10 rfl ?_
    exact sr_iretZ dX8_isImage_14 rfl (Or.inr rfl) rfl
  · refine sr_iload_n (i := 0) (pc' := 5) dX8_isImage_4 rfl rfl rfl ?_
    refine sr_iconst (pc' := 6) dX8_isImage_5 rfl (by decide) ?_
    refine sr_icmp_ne (pc' := 9) (tgt := 13) dX8_isImage_6 rfl rfl (fun c6 => ?_) (fun c6 => ?_)
    · refine sr_iconst (pc' := 10) dX8_isImage_9 rfl (by decide) ?_
      refine sr_goto (pc' := 14) dX8_isImage_10 rfl ?_
      exact sr_iretZ dX8_isImage_14 rfl (Or.inr rfl) rfl
    · refine sr_iconst (pc' := 14) dX8_isImage_13 rfl (by decide) ?_
      exact sr_iretZ dX8_isImage_14 rfl (Or.inl rfl) rfl
def ww_image (μ : Mem)  (x1 : Int) : Option (Nat) := if x1 = 0 then (some 9) else (some 17)
theorem ww_image_sp {l : Launch} {G : Nv}   (x1 : Int) (μ : Mem) : SP l G S88 mX8_image [vR 0, vI x1] μ (ww_image μ x1) (jR μ) := by
  refine sp_go (lv := [some (vR 0), some (vI x1)]) pn_X8 (Nat.le_of_ble_eq_true rfl) rfl ?_
  unfold ww_image
  refine sr_iload_n (i := 1) (pc' := 1) dX8_image_0 rfl rfl rfl ?_
  refine sr_if_ne (pc' := 4) (tgt := 11) dX8_image_1 rfl rfl (fun c1 => ?_) (fun c1 => ?_)
  · refine sr_aload_n (i := 0) (pc' := 5) dX8_image_4 rfl rfl rfl ?_
    refine sr_getR (k := 1) (b := 9) (pc' := 8) cls_X8 dX8_image_5 rfl s88_0 rfl (by decide) w_0 ?_
    refine sr_goto (pc' := 15) dX8_image_8 rfl ?_
    exact sr_aret dX8_image_15 rfl rfl
  · refine sr_aload_n (i := 0) (pc' := 12) dX8_image_11 rfl rfl rfl ?_
    refine sr_getR (k := 2) (b := 17) (pc' := 15) cls_X8 dX8_image_12 rfl s88_0 rfl (by decide) w_1 ?_
    exact sr_aret dX8_image_15 rfl rfl
theorem image_road {μ : Mem} {k : Int} {u : Nat} (h : ww_image μ k = some u) : IsRoad S88 u := by
  unfold ww_image at h
  split at h <;> (cases h; first | exact isRoad_9 | exact isRoad_17)
def ww_copy_2 (a0 n0 : Nat) (a1 n1 : Nat)  : Nat → Int → Mem → Option (Mem)
  | 0, _, _ => none
  | n + 1, x2, μ => if (n1 : Int) ≤ x2 then (some μ) else (if (n0 : Int) ≤ x2 then (some μ) else ((ld μ a0 n0 x2).bind fun v1 => (stx μ a1 n1 x2 v1).bind fun μ2 => ww_copy_2 a0 n0 a1 n1 n (wI (x2 + 1)) μ2))
theorem ww_copy_2_s {l : Launch} {G : Nv} {Sh : Shp} {a0 n0 : Nat} {a1 n1 : Nat} (ha0 : Sh[a0]? = some (0, n0, [])) (hn0 : n0 < 2147483648) (ha1 : Sh[a1]? = some (0, n1, [])) (hn1 : n1 < 2147483648)   : ∀ (n : Nat) (x2 : Int) (μ : Mem), SR l G Sh mX8_copy (ww_copy_2 a0 n0 a1 n1 n x2 μ) jM 2 [some (vR a0), some (vR a1), some (vI x2)] [] μ := by
  intro n
  induction n with
  | zero => intro x2 μ; exact sr_none
  | succ n ih =>
    intro x2 μ
    rw [ww_copy_2.eq_2]
    refine sr_iload_n (i := 2) (pc' := 3) dX8_copy_2 rfl rfl rfl ?_
    refine sr_aload_n (i := 1) (pc' := 4) dX8_copy_3 rfl rfl rfl ?_
    refine sr_alen0 (pc' := 5) dX8_copy_4 rfl ha1 hn1 ?_
    refine sr_icmp_ge (pc' := 8) (tgt := 26) dX8_copy_5 rfl rfl (fun c5 => ?_) (fun c5 => ?_)
    · exact sr_ret dX8_copy_26 rfl rfl
    · refine sr_iload_n (i := 2) (pc' := 9) dX8_copy_8 rfl rfl rfl ?_
      refine sr_aload_n (i := 0) (pc' := 10) dX8_copy_9 rfl rfl rfl ?_
      refine sr_alen0 (pc' := 11) dX8_copy_10 rfl ha0 hn0 ?_
      refine sr_icmp_ge (pc' := 14) (tgt := 26) dX8_copy_11 rfl rfl (fun c11 => ?_) (fun c11 => ?_)
      · exact sr_ret dX8_copy_26 rfl rfl
      · refine sr_aload_n (i := 1) (pc' := 15) dX8_copy_14 rfl rfl rfl ?_
        refine sr_iload_n (i := 2) (pc' := 16) dX8_copy_15 rfl rfl rfl ?_
        refine sr_aload_n (i := 0) (pc' := 17) dX8_copy_16 rfl rfl rfl ?_
        refine sr_iload_n (i := 2) (pc' := 18) dX8_copy_17 rfl rfl rfl ?_
        refine sr_iald (pc' := 19) dX8_copy_18 rfl ha0 hn0 (fun v1 hv1 hv1a hv1b => ?_)
        refine sr_iast (pc' := 20) dX8_copy_19 rfl ha1 hn1 (fun μ2 hμ2 hμ2a hμ2b => ?_)
        refine sr_iinc (lv' := [some (vR a0), some (vR a1), some (vI (wI (x2 + 1)))]) (pc' := 23) dX8_copy_20 rfl (by decide) rfl rfl ?_
        refine sr_goto (pc' := 2) dX8_copy_23 rfl ?_
        exact ih (wI (x2 + 1)) μ2
def ww_copy (a0 n0 : Nat) (a1 n1 : Nat)  (μ : Mem) : Option (Mem) := ww_copy_2 a0 n0 a1 n1 BIG 0 μ
theorem ww_copy_sp {l : Launch} {G : Nv} {Sh : Shp} {a0 n0 : Nat} {a1 n1 : Nat} (ha0 : Sh[a0]? = some (0, n0, [])) (hn0 : n0 < 2147483648) (ha1 : Sh[a1]? = some (0, n1, [])) (hn1 : n1 < 2147483648) (μ : Mem) : SP l G Sh mX8_copy [vR a0, vR a1] μ (ww_copy a0 n0 a1 n1 μ) jM := by
  refine sp_go (lv := [some (vR a0), some (vR a1), none]) pn_X8 (Nat.le_of_ble_eq_true rfl) rfl ?_
  unfold ww_copy
  refine sr_iconst (pc' := 1) dX8_copy_0 rfl (by decide) ?_
  refine sr_istore_n (i := 2) (lv' := [some (vR a0), some (vR a1), some (vI 0)]) (pc' := 2) dX8_copy_1 rfl rfl (by decide) rfl ?_
  exact ww_copy_2_s ha0 hn0 ha1 hn1 BIG 0 μ
def roa_copyFrom (r : Nat) (r1 : Nat)  (μ : Mem) : Option (Mem) := (ww_copy (r1 + 1) 21 (r + 1) 21 μ).bind fun μ1 => (ww_copy (r1 + 2) 21 (r + 2) 21 μ1).bind fun μ2 => (ww_copy (r1 + 3) 63 (r + 3) 63 μ2).bind fun μ3 => (ww_copy (r1 + 4) 63 (r + 4) 63 μ3).bind fun μ4 => (ww_copy (r1 + 5) 35 (r + 5) 35 μ4).bind fun μ5 => (ww_copy (r1 + 6) 8 (r + 6) 8 μ5).bind fun μ6 => (ww_copy (r1 + 7) 8 (r + 7) 8 μ6).bind fun μ7 => bnd (mset μ7 r 7 (μ7 r1 7)) fun μ8 => bnd (mset μ8 r 8 (μ8 r1 8)) fun μ9 => bnd (mset μ9 r 9 (μ9 r1 9)) fun μ10 => bnd (mset μ10 r 10 (μ10 r1 10)) fun μ11 => bnd (mset μ11 r 11 (μ11 r1 11)) fun μ12 => some μ12
theorem roa_copyFrom_sp {l : Launch} {G : Nv} {Sh : Shp} {r : Nat} {r1 : Nat} (hr : IsRoad Sh r) (hr1 : IsRoad Sh r1) (μ : Mem) : SP l G Sh mX4_copyFrom [vR r, vR r1] μ (roa_copyFrom r r1 μ) jM := by
  refine sp_go (lv := [some (vR r), some (vR r1)]) pn_X4 (Nat.le_of_ble_eq_true rfl) rfl ?_
  unfold roa_copyFrom
  refine sr_aload_n (i := 1) (pc' := 1) dX4_copyFrom_0 rfl rfl rfl ?_
  refine sr_getR (k := 0) (b := (r1 + 1)) (pc' := 4) cls_X4 dX4_copyFrom_1 rfl hr1.1 rfl (by decide) w_2 ?_
  refine sr_aload_n (i := 0) (pc' := 5) dX4_copyFrom_4 rfl rfl rfl ?_
  refine sr_getR (k := 0) (b := (r + 1)) (pc' := 8) cls_X4 dX4_copyFrom_5 rfl hr.1 rfl (by decide) w_2 ?_
  refine sr_callSN2_M (pc' := 11) (ww_copy_sp hr1.2.1 (by decide) hr.2.1 (by decide) μ) dX4_copyFrom_8 rfl mg_X8_copy ms_X8_copy ⟨Nat.le_of_ble_eq_true rfl, Nat.le_of_ble_eq_true rfl⟩ w_3 (Nat.le_of_ble_eq_true rfl) (fun μ1 hμ1 => ?_)
  refine sr_aload_n (i := 1) (pc' := 12) dX4_copyFrom_11 rfl rfl rfl ?_
  refine sr_getR (k := 1) (b := (r1 + 2)) (pc' := 15) cls_X4 dX4_copyFrom_12 rfl hr1.1 rfl (by decide) w_4 ?_
  refine sr_aload_n (i := 0) (pc' := 16) dX4_copyFrom_15 rfl rfl rfl ?_
  refine sr_getR (k := 1) (b := (r + 2)) (pc' := 19) cls_X4 dX4_copyFrom_16 rfl hr.1 rfl (by decide) w_4 ?_
  refine sr_callSN2_M (pc' := 22) (ww_copy_sp hr1.2.2.1 (by decide) hr.2.2.1 (by decide) μ1) dX4_copyFrom_19 rfl mg_X8_copy ms_X8_copy ⟨Nat.le_of_ble_eq_true rfl, Nat.le_of_ble_eq_true rfl⟩ w_3 (Nat.le_of_ble_eq_true rfl) (fun μ2 hμ2 => ?_)
  refine sr_aload_n (i := 1) (pc' := 23) dX4_copyFrom_22 rfl rfl rfl ?_
  refine sr_getR (k := 2) (b := (r1 + 3)) (pc' := 26) cls_X4 dX4_copyFrom_23 rfl hr1.1 rfl (by decide) w_5 ?_
  refine sr_aload_n (i := 0) (pc' := 27) dX4_copyFrom_26 rfl rfl rfl ?_
  refine sr_getR (k := 2) (b := (r + 3)) (pc' := 30) cls_X4 dX4_copyFrom_27 rfl hr.1 rfl (by decide) w_5 ?_
  refine sr_callSN2_M (pc' := 33) (ww_copy_sp hr1.2.2.2.1 (by decide) hr.2.2.2.1 (by decide) μ2) dX4_copyFrom_30 rfl mg_X8_copy ms_X8_copy ⟨Nat.le_of_ble_eq_true rfl, Nat.le_of_ble_eq_true rfl⟩ w_3 (Nat.le_of_ble_eq_true rfl) (fun μ3 hμ3 => ?_)
  refine sr_aload_n (i := 1) (pc' := 34) dX4_copyFrom_33 rfl rfl rfl ?_
  refine sr_getR (k := 3) (b := (r1 + 4)) (pc' := 37) cls_X4 dX4_copyFrom_34 rfl hr1.1 rfl (by decide) w_6 ?_
  refine sr_aload_n (i := 0) (pc' := 38) dX4_copyFrom_37 rfl rfl rfl ?_
  refine sr_getR (k := 3) (b := (r + 4)) (pc' := 41) cls_X4 dX4_copyFrom_38 rfl hr.1 rfl (by decide) w_6 ?_
  refine sr_callSN2_M (pc' := 44) (ww_copy_sp hr1.2.2.2.2.1 (by decide) hr.2.2.2.2.1 (by decide) μ3) dX4_copyFrom_41 rfl mg_X8_copy ms_X8_copy ⟨Nat.le_of_ble_eq_true rfl, Nat.le_of_ble_eq_true rfl⟩ w_3 (Nat.le_of_ble_eq_true rfl) (fun μ4 hμ4 => ?_)
  refine sr_aload_n (i := 1) (pc' := 45) dX4_copyFrom_44 rfl rfl rfl ?_
  refine sr_getR (k := 4) (b := (r1 + 5)) (pc' := 48) cls_X4 dX4_copyFrom_45 rfl hr1.1 rfl (by decide) w_7 ?_
  refine sr_aload_n (i := 0) (pc' := 49) dX4_copyFrom_48 rfl rfl rfl ?_
  refine sr_getR (k := 4) (b := (r + 5)) (pc' := 52) cls_X4 dX4_copyFrom_49 rfl hr.1 rfl (by decide) w_7 ?_
  refine sr_callSN2_M (pc' := 55) (ww_copy_sp hr1.2.2.2.2.2.1 (by decide) hr.2.2.2.2.2.1 (by decide) μ4) dX4_copyFrom_52 rfl mg_X8_copy ms_X8_copy ⟨Nat.le_of_ble_eq_true rfl, Nat.le_of_ble_eq_true rfl⟩ w_3 (Nat.le_of_ble_eq_true rfl) (fun μ5 hμ5 => ?_)
  refine sr_aload_n (i := 1) (pc' := 56) dX4_copyFrom_55 rfl rfl rfl ?_
  refine sr_getR (k := 5) (b := (r1 + 6)) (pc' := 59) cls_X4 dX4_copyFrom_56 rfl hr1.1 rfl (by decide) w_8 ?_
  refine sr_aload_n (i := 0) (pc' := 60) dX4_copyFrom_59 rfl rfl rfl ?_
  refine sr_getR (k := 5) (b := (r + 6)) (pc' := 63) cls_X4 dX4_copyFrom_60 rfl hr.1 rfl (by decide) w_8 ?_
  refine sr_callSN2_M (pc' := 66) (ww_copy_sp hr1.2.2.2.2.2.2.1 (by decide) hr.2.2.2.2.2.2.1 (by decide) μ5) dX4_copyFrom_63 rfl mg_X8_copy ms_X8_copy ⟨Nat.le_of_ble_eq_true rfl, Nat.le_of_ble_eq_true rfl⟩ w_3 (Nat.le_of_ble_eq_true rfl) (fun μ6 hμ6 => ?_)
  refine sr_aload_n (i := 1) (pc' := 67) dX4_copyFrom_66 rfl rfl rfl ?_
  refine sr_getR (k := 6) (b := (r1 + 7)) (pc' := 70) cls_X4 dX4_copyFrom_67 rfl hr1.1 rfl (by decide) w_9 ?_
  refine sr_aload_n (i := 0) (pc' := 71) dX4_copyFrom_70 rfl rfl rfl ?_
  refine sr_getR (k := 6) (b := (r + 7)) (pc' := 74) cls_X4 dX4_copyFrom_71 rfl hr.1 rfl (by decide) w_9 ?_
  refine sr_callSN2_M (pc' := 77) (ww_copy_sp hr1.2.2.2.2.2.2.2 (by decide) hr.2.2.2.2.2.2.2 (by decide) μ6) dX4_copyFrom_74 rfl mg_X8_copy ms_X8_copy ⟨Nat.le_of_ble_eq_true rfl, Nat.le_of_ble_eq_true rfl⟩ w_3 (Nat.le_of_ble_eq_true rfl) (fun μ7 hμ7 => ?_)
  refine sr_aload_n (i := 0) (pc' := 78) dX4_copyFrom_77 rfl rfl rfl ?_
  refine sr_aload_n (i := 1) (pc' := 79) dX4_copyFrom_78 rfl rfl rfl ?_
  refine sr_getI (k := 7) (pc' := 82) cls_X4 dX4_copyFrom_79 rfl hr1.1 rfl (by decide) w_10 ?_
  refine sr_putI (k := 7) (pc' := 85) cls_X4 dX4_copyFrom_82 rfl hr.1 rfl (by decide) w_10 rfl rfl (fun μ8 hμ8 => ?_)
  refine sr_aload_n (i := 0) (pc' := 86) dX4_copyFrom_85 rfl rfl rfl ?_
  refine sr_aload_n (i := 1) (pc' := 87) dX4_copyFrom_86 rfl rfl rfl ?_
  refine sr_getL (k := 8) (pc' := 90) cls_X4 dX4_copyFrom_87 rfl hr1.1 rfl (by decide) w_11 ?_
  refine sr_putL (k := 8) (pc' := 93) cls_X4 dX4_copyFrom_90 rfl hr.1 rfl (by decide) w_11 rfl rfl (fun μ9 hμ9 => ?_)
  refine sr_aload_n (i := 0) (pc' := 94) dX4_copyFrom_93 rfl rfl rfl ?_
  refine sr_aload_n (i := 1) (pc' := 95) dX4_copyFrom_94 rfl rfl rfl ?_
  refine sr_getI (k := 9) (pc' := 98) cls_X4 dX4_copyFrom_95 rfl hr1.1 rfl (by decide) w_12 ?_
  refine sr_putI (k := 9) (pc' := 101) cls_X4 dX4_copyFrom_98 rfl hr.1 rfl (by decide) w_12 rfl rfl (fun μ10 hμ10 => ?_)
  refine sr_aload_n (i := 0) (pc' := 102) dX4_copyFrom_101 rfl rfl rfl ?_
  refine sr_aload_n (i := 1) (pc' := 103) dX4_copyFrom_102 rfl rfl rfl ?_
  refine sr_getI (k := 10) (pc' := 106) cls_X4 dX4_copyFrom_103 rfl hr1.1 rfl (by decide) w_13 ?_
  refine sr_putI (k := 10) (pc' := 109) cls_X4 dX4_copyFrom_106 rfl hr.1 rfl (by decide) w_13 rfl rfl (fun μ11 hμ11 => ?_)
  refine sr_aload_n (i := 0) (pc' := 110) dX4_copyFrom_109 rfl rfl rfl ?_
  refine sr_aload_n (i := 1) (pc' := 111) dX4_copyFrom_110 rfl rfl rfl ?_
  refine sr_getI (k := 11) (pc' := 114) cls_X4 dX4_copyFrom_111 rfl hr1.1 rfl (by decide) w_14 ?_
  refine sr_putI (k := 11) (pc' := 117) cls_X4 dX4_copyFrom_114 rfl hr.1 rfl (by decide) w_14 rfl rfl (fun μ12 hμ12 => ?_)
  exact sr_ret dX4_copyFrom_117 rfl rfl
def pla_drop   (μ : Mem) : Option (Mem) := bnd (mset μ 46 4 0) fun μ1 => bnd (mset μ1 46 5 0) fun μ2 => some μ2
theorem pla_drop_sp {l : Launch} {G : Nv}   (μ : Mem) : SP l G S88 mX2_drop [vR 46] μ (pla_drop μ) jM := by
  refine sp_go (lv := [some (vR 46)]) pn_X2 (Nat.le_of_ble_eq_true rfl) rfl ?_
  unfold pla_drop
  refine sr_aload_n (i := 0) (pc' := 1) dX2_drop_0 rfl rfl rfl ?_
  refine sr_iconst (pc' := 2) dX2_drop_1 rfl (by decide) ?_
  refine sr_putZ (k := 4) (pc' := 5) cls_X2 dX2_drop_2 rfl s88_46 rfl (by decide) w_15 rfl rfl (Or.inl rfl) (fun μ1 hμ1 => ?_)
  refine sr_aload_n (i := 0) (pc' := 6) dX2_drop_5 rfl rfl rfl ?_
  refine sr_iconst (pc' := 7) dX2_drop_6 rfl (by decide) ?_
  refine sr_putZ (k := 5) (pc' := 10) cls_X2 dX2_drop_7 rfl s88_46 rfl (by decide) w_16 rfl rfl (Or.inl rfl) (fun μ2 hμ2 => ?_)
  exact sr_ret dX2_drop_10 rfl rfl
def ww_back   (x1 : Int) (μ : Mem) : Option (Int × Mem) := (ww_isImage μ x1).bind fun u1 => if u1 = 0 then (some ((-1), μ)) else (if (iAnd (iShr (μ 0 10) x1) 1) = 0 then (some ((-2), μ)) else ((ww_image μ x1).bind fun u2 => (roa_copyFrom 1 u2 μ).bind fun μ3 => (pla_drop μ3).bind fun μ4 => some (μ4 1 10, μ4)))
theorem ww_back_sp {l : Launch} {G : Nv}   (x1 : Int) (μ : Mem) : SP l G S88 mX8_back [vR 0, vI x1] μ (ww_back x1 μ) jIM := by
  refine sp_go (lv := [some (vR 0), some (vI x1)]) pn_X8 (Nat.le_of_ble_eq_true rfl) rfl ?_
  unfold ww_back
  refine sr_iload_n (i := 1) (pc' := 1) dX8_back_0 rfl rfl rfl ?_
  refine sr_callS1_I (pc' := 4) (ww_isImage_sp x1 μ) dX8_back_1 rfl mg_X8_isImage ms_X8_isImage ⟨Nat.le_of_ble_eq_true rfl, Nat.le_of_ble_eq_true rfl⟩ w_17 (Nat.le_of_ble_eq_true rfl) (fun u1 hu1 hcu1 hzu1 => ?_)
  refine sr_if_ne (pc' := 7) (tgt := 9) dX8_back_4 rfl rfl (fun c4 => ?_) (fun c4 => ?_)
  · refine sr_iconst (pc' := 8) dX8_back_7 rfl (by decide) ?_
    exact sr_iretI dX8_back_8 rfl rfl
  · refine sr_aload_n (i := 0) (pc' := 10) dX8_back_9 rfl rfl rfl ?_
    refine sr_getI (k := 10) (pc' := 13) cls_X8 dX8_back_10 rfl s88_0 rfl (by decide) w_18 ?_
    refine sr_iload_n (i := 1) (pc' := 14) dX8_back_13 rfl rfl rfl ?_
    refine sr_ishr (pc' := 15) dX8_back_14 rfl ?_
    refine sr_iconst (pc' := 16) dX8_back_15 rfl (by decide) ?_
    refine sr_iand (pc' := 17) dX8_back_16 rfl ?_
    refine sr_if_ne (pc' := 20) (tgt := 23) dX8_back_17 rfl rfl (fun c17 => ?_) (fun c17 => ?_)
    · refine sr_bipush (pc' := 22) dX8_back_20 rfl (by decide) (by decide) ?_
      exact sr_iretI dX8_back_22 rfl rfl
    · refine sr_aload_n (i := 0) (pc' := 24) dX8_back_23 rfl rfl rfl ?_
      refine sr_getR (k := 0) (b := 1) (pc' := 27) cls_X8 dX8_back_24 rfl s88_0 rfl (by decide) w_19 ?_
      refine sr_aload_n (i := 0) (pc' := 28) dX8_back_27 rfl rfl rfl ?_
      refine sr_iload_n (i := 1) (pc' := 29) dX8_back_28 rfl rfl rfl ?_
      refine sr_callV1_R (pc' := 32) (ww_image_sp x1 μ) dX8_back_29 rfl mg_X8_image mi_X8_image (Or.inl ⟨8, _, TX8, 11, s88_0, rfl⟩) ⟨Nat.le_of_ble_eq_true rfl, Nat.le_of_ble_eq_true rfl⟩ w_20 (Nat.le_of_ble_eq_true rfl) (fun u2 hu2 => ?_)
      have hRu2 : IsRoad S88 u2 := image_road hu2
      refine sr_callVN1_M (pc' := 35) (roa_copyFrom_sp isRoad_1 hRu2 μ) dX8_back_32 rfl mg_X4_copyFrom mi_X4_copyFrom (Or.inl ⟨4, _, TX4, 12, isRoad_1.1, rfl⟩) ⟨Nat.le_of_ble_eq_true rfl, Nat.le_of_ble_eq_true rfl⟩ w_21 (Nat.le_of_ble_eq_true rfl) (fun μ3 hμ3 => ?_)
      refine sr_aload_n (i := 0) (pc' := 36) dX8_back_35 rfl rfl rfl ?_
      refine sr_getR (k := 6) (b := 46) (pc' := 39) cls_X8 dX8_back_36 rfl s88_0 rfl (by decide) w_22 ?_
      refine sr_callVN0_M (pc' := 42) (pla_drop_sp μ3) dX8_back_39 rfl mg_X2_drop mi_X2_drop (Or.inl ⟨2, _, TX2, 10, s88_46, rfl⟩) ⟨Nat.le_of_ble_eq_true rfl, Nat.le_of_ble_eq_true rfl⟩ w_23 (Nat.le_of_ble_eq_true rfl) (fun μ4 hμ4 => ?_)
      refine sr_aload_n (i := 0) (pc' := 43) dX8_back_42 rfl rfl rfl ?_
      refine sr_getR (k := 0) (b := 1) (pc' := 46) cls_X8 dX8_back_43 rfl s88_0 rfl (by decide) w_19 ?_
      refine sr_getI (k := 10) (pc' := 49) cls_X4 dX8_back_46 rfl isRoad_1.1 rfl (by decide) w_24 ?_
      exact sr_iretI dX8_back_49 rfl rfl
def roa_hasCart (r : Nat) (μ : Mem)  (x1 : Int) : Option (Int) := if x1 < 0 then (some 0) else (if (μ r 10) ≤ x1 then (some 0) else (some 1))
theorem roa_hasCart_sp {l : Launch} {G : Nv} {Sh : Shp} {r : Nat} (hr : IsRoad Sh r) (x1 : Int) (μ : Mem) : SP l G Sh mX4_hasCart [vR r, vI x1] μ (roa_hasCart r μ x1) (jI μ) := by
  refine sp_go (lv := [some (vR r), some (vI x1)]) pn_X4 (Nat.le_of_ble_eq_true rfl) rfl ?_
  unfold roa_hasCart
  refine sr_iload_n (i := 1) (pc' := 1) dX4_hasCart_0 rfl rfl rfl ?_
  refine sr_if_lt (pc' := 4) (tgt := 16) dX4_hasCart_1 rfl rfl (fun c1 => ?_) (fun c1 => ?_)
  · refine sr_iconst (pc' := 17) dX4_hasCart_16 rfl (by decide) ?_
    exact sr_iretZ dX4_hasCart_17 rfl (Or.inl rfl) rfl
  · refine sr_iload_n (i := 1) (pc' := 5) dX4_hasCart_4 rfl rfl rfl ?_
    refine sr_aload_n (i := 0) (pc' := 6) dX4_hasCart_5 rfl rfl rfl ?_
    refine sr_getI (k := 10) (pc' := 9) cls_X4 dX4_hasCart_6 rfl hr.1 rfl (by decide) w_13 ?_
    refine sr_icmp_ge (pc' := 12) (tgt := 16) dX4_hasCart_9 rfl rfl (fun c9 => ?_) (fun c9 => ?_)
    · refine sr_iconst (pc' := 17) dX4_hasCart_16 rfl (by decide) ?_
      exact sr_iretZ dX4_hasCart_17 rfl (Or.inl rfl) rfl
    · refine sr_iconst (pc' := 13) dX4_hasCart_12 rfl (by decide) ?_
      refine sr_goto (pc' := 17) dX4_hasCart_13 rfl ?_
      exact sr_iretZ dX4_hasCart_17 rfl (Or.inr rfl) rfl
def roa_part (r : Nat) (μ : Mem)  (x1 x2 : Int) : Option (Int) := bnd (wI ((wI (x1 * 7)) + x2)) fun v1 => if v1 < 0 then (some 0) else (if 35 ≤ v1 then (some 0) else ((ld μ (r + 5) 35 v1).bind fun v2 => some v2))
theorem roa_part_sp {l : Launch} {G : Nv} {Sh : Shp} {r : Nat} (hr : IsRoad Sh r) (x1 x2 : Int) (μ : Mem) : SP l G Sh mX4_part [vR r, vI x1, vI x2] μ (roa_part r μ x1 x2) (jI μ) := by
  refine sp_go (lv := [some (vR r), some (vI x1), some (vI x2), none]) pn_X4 (Nat.le_of_ble_eq_true rfl) rfl ?_
  unfold roa_part
  refine sr_iload_n (i := 1) (pc' := 1) dX4_part_0 rfl rfl rfl ?_
  refine sr_bipush (pc' := 3) dX4_part_1 rfl (by decide) (by decide) ?_
  refine sr_imul (pc' := 4) dX4_part_3 rfl ?_
  refine sr_iload_n (i := 2) (pc' := 5) dX4_part_4 rfl rfl rfl ?_
  refine sr_iadd (pc' := 6) dX4_part_5 rfl ?_
  refine sr_bnd (fun v1 hv1 => ?_)
  refine sr_istore_n (i := 3) (lv' := [some (vR r), some (vI x1), some (vI x2), some (vI v1)]) (pc' := 7) dX4_part_6 rfl rfl (by decide) rfl ?_
  refine sr_iload_n (i := 3) (pc' := 8) dX4_part_7 rfl rfl rfl ?_
  refine sr_if_lt (pc' := 11) (tgt := 29) dX4_part_8 rfl rfl (fun c8 => ?_) (fun c8 => ?_)
  · refine sr_iconst (pc' := 30) dX4_part_29 rfl (by decide) ?_
    exact sr_iretI dX4_part_30 rfl rfl
  · refine sr_iload_n (i := 3) (pc' := 12) dX4_part_11 rfl rfl rfl ?_
    refine sr_aload_n (i := 0) (pc' := 13) dX4_part_12 rfl rfl rfl ?_
    refine sr_getR (k := 4) (b := (r + 5)) (pc' := 16) cls_X4 dX4_part_13 rfl hr.1 rfl (by decide) w_7 ?_
    refine sr_alen0 (pc' := 17) dX4_part_16 rfl hr.2.2.2.2.2.1 (by decide) ?_
    refine sr_icmp_ge (pc' := 20) (tgt := 29) dX4_part_17 rfl rfl (fun c17 => ?_) (fun c17 => ?_)
    · refine sr_iconst (pc' := 30) dX4_part_29 rfl (by decide) ?_
      exact sr_iretI dX4_part_30 rfl rfl
    · refine sr_aload_n (i := 0) (pc' := 21) dX4_part_20 rfl rfl rfl ?_
      refine sr_getR (k := 4) (b := (r + 5)) (pc' := 24) cls_X4 dX4_part_21 rfl hr.1 rfl (by decide) w_7 ?_
      refine sr_iload_n (i := 3) (pc' := 25) dX4_part_24 rfl rfl rfl ?_
      refine sr_iald (pc' := 26) dX4_part_25 rfl hr.2.2.2.2.2.1 (by decide) (fun v2 hv2 hv2a hv2b => ?_)
      refine sr_goto (pc' := 30) dX4_part_26 rfl ?_
      exact sr_iretI dX4_part_30 rfl rfl
def ww_rut (μ : Mem)  (x0 x1 : Int) : Option (Int) := some (wI ((wI (x0 * 3)) + x1))
theorem ww_rut_sp {l : Launch} {G : Nv} {Sh : Shp}   (x0 x1 : Int) (μ : Mem) : SP l G Sh mX8_rut [vI x0, vI x1] μ (ww_rut μ x0 x1) (jI μ) := by
  refine sp_go (lv := [some (vI x0), some (vI x1)]) pn_X8 (Nat.le_of_ble_eq_true rfl) rfl ?_
  unfold ww_rut
  refine sr_iload_n (i := 0) (pc' := 1) dX8_rut_0 rfl rfl rfl ?_
  refine sr_iconst (pc' := 2) dX8_rut_1 rfl (by decide) ?_
  refine sr_imul (pc' := 3) dX8_rut_2 rfl ?_
  refine sr_iload_n (i := 1) (pc' := 4) dX8_rut_3 rfl rfl rfl ?_
  refine sr_iadd (pc' := 5) dX8_rut_4 rfl ?_
  exact sr_iretI dX8_rut_5 rfl rfl
def way_begin (μ : Mem)  : Option (Int) := (roa_part 1 μ (μ 51 2) 4).bind fun u1 => (roa_part 1 μ (μ 51 2) 1).bind fun u2 => (ww_rut μ u1 u2).bind fun u3 => some u3
theorem way_begin_sp {l : Launch} {G : Nv}   (μ : Mem) : SP l G S88 mX7_begin [vR 51] μ (way_begin μ) (jI μ) := by
  refine sp_go (lv := [some (vR 51)]) pn_X7 (Nat.le_of_ble_eq_true rfl) rfl ?_
  unfold way_begin
  refine sr_aload_n (i := 0) (pc' := 1) dX7_begin_0 rfl rfl rfl ?_
  refine sr_getR (k := 0) (b := 1) (pc' := 4) cls_X7 dX7_begin_1 rfl s88_51 rfl (by decide) w_25 ?_
  refine sr_aload_n (i := 0) (pc' := 5) dX7_begin_4 rfl rfl rfl ?_
  refine sr_getI (k := 2) (pc' := 8) cls_X7 dX7_begin_5 rfl s88_51 rfl (by decide) w_26 ?_
  refine sr_iconst (pc' := 9) dX7_begin_8 rfl (by decide) ?_
  refine sr_callVN2_I (pc' := 12) (roa_part_sp isRoad_1 (μ 51 2) 4 μ) dX7_begin_9 rfl mg_X4_part mi_X4_part (Or.inl ⟨4, _, TX4, 12, isRoad_1.1, rfl⟩) ⟨Nat.le_of_ble_eq_true rfl, Nat.le_of_ble_eq_true rfl⟩ w_27 (Nat.le_of_ble_eq_true rfl) (fun u1 hu1 hcu1 hzu1 => ?_)
  refine sr_aload_n (i := 0) (pc' := 13) dX7_begin_12 rfl rfl rfl ?_
  refine sr_getR (k := 0) (b := 1) (pc' := 16) cls_X7 dX7_begin_13 rfl s88_51 rfl (by decide) w_25 ?_
  refine sr_aload_n (i := 0) (pc' := 17) dX7_begin_16 rfl rfl rfl ?_
  refine sr_getI (k := 2) (pc' := 20) cls_X7 dX7_begin_17 rfl s88_51 rfl (by decide) w_26 ?_
  refine sr_iconst (pc' := 21) dX7_begin_20 rfl (by decide) ?_
  refine sr_callVN2_I (pc' := 24) (roa_part_sp isRoad_1 (μ 51 2) 1 μ) dX7_begin_21 rfl mg_X4_part mi_X4_part (Or.inl ⟨4, _, TX4, 12, isRoad_1.1, rfl⟩) ⟨Nat.le_of_ble_eq_true rfl, Nat.le_of_ble_eq_true rfl⟩ w_27 (Nat.le_of_ble_eq_true rfl) (fun u2 hu2 hcu2 hzu2 => ?_)
  refine sr_callSN2_I (pc' := 27) (ww_rut_sp u1 u2 μ) dX7_begin_24 rfl mg_X8_rut ms_X8_rut ⟨Nat.le_of_ble_eq_true rfl, Nat.le_of_ble_eq_true rfl⟩ w_28 (Nat.le_of_ble_eq_true rfl) (fun u3 hu3 hcu3 hzu3 => ?_)
  exact sr_iretI dX7_begin_27 rfl rfl
def roa_hasYard (r : Nat) (μ : Mem)  (x1 : Int) : Option (Int) := if x1 < 0 then (some 0) else (if (μ r 9) < x1 then (some 0) else (some 1))
theorem roa_hasYard_sp {l : Launch} {G : Nv} {Sh : Shp} {r : Nat} (hr : IsRoad Sh r) (x1 : Int) (μ : Mem) : SP l G Sh mX4_hasYard [vR r, vI x1] μ (roa_hasYard r μ x1) (jI μ) := by
  refine sp_go (lv := [some (vR r), some (vI x1)]) pn_X4 (Nat.le_of_ble_eq_true rfl) rfl ?_
  unfold roa_hasYard
  refine sr_iload_n (i := 1) (pc' := 1) dX4_hasYard_0 rfl rfl rfl ?_
  refine sr_if_lt (pc' := 4) (tgt := 16) dX4_hasYard_1 rfl rfl (fun c1 => ?_) (fun c1 => ?_)
  · refine sr_iconst (pc' := 17) dX4_hasYard_16 rfl (by decide) ?_
    exact sr_iretZ dX4_hasYard_17 rfl (Or.inl rfl) rfl
  · refine sr_iload_n (i := 1) (pc' := 5) dX4_hasYard_4 rfl rfl rfl ?_
    refine sr_aload_n (i := 0) (pc' := 6) dX4_hasYard_5 rfl rfl rfl ?_
    refine sr_getI (k := 9) (pc' := 9) cls_X4 dX4_hasYard_6 rfl hr.1 rfl (by decide) w_12 ?_
    refine sr_icmp_gt (pc' := 12) (tgt := 16) dX4_hasYard_9 rfl rfl (fun c9 => ?_) (fun c9 => ?_)
    · refine sr_iconst (pc' := 17) dX4_hasYard_16 rfl (by decide) ?_
      exact sr_iretZ dX4_hasYard_17 rfl (Or.inl rfl) rfl
    · refine sr_iconst (pc' := 13) dX4_hasYard_12 rfl (by decide) ?_
      refine sr_goto (pc' := 17) dX4_hasYard_13 rfl ?_
      exact sr_iretZ dX4_hasYard_17 rfl (Or.inr rfl) rfl
def roa_smithAt (r : Nat) (μ : Mem)  (x1 : Int) : Option (Int) := if x1 < 0 then (some (-4)) else (if 21 ≤ x1 then (some (-4)) else ((ld μ (r + 2) 21 x1).bind fun v1 => some v1))
theorem roa_smithAt_sp {l : Launch} {G : Nv} {Sh : Shp} {r : Nat} (hr : IsRoad Sh r) (x1 : Int) (μ : Mem) : SP l G Sh mX4_smithAt [vR r, vI x1] μ (roa_smithAt r μ x1) (jI μ) := by
  refine sp_go (lv := [some (vR r), some (vI x1)]) pn_X4 (Nat.le_of_ble_eq_true rfl) rfl ?_
  unfold roa_smithAt
  refine sr_iload_n (i := 1) (pc' := 1) dX4_smithAt_0 rfl rfl rfl ?_
  refine sr_if_lt (pc' := 4) (tgt := 22) dX4_smithAt_1 rfl rfl (fun c1 => ?_) (fun c1 => ?_)
  · refine sr_bipush (pc' := 24) dX4_smithAt_22 rfl (by decide) (by decide) ?_
    exact sr_iretI dX4_smithAt_24 rfl rfl
  · refine sr_iload_n (i := 1) (pc' := 5) dX4_smithAt_4 rfl rfl rfl ?_
    refine sr_aload_n (i := 0) (pc' := 6) dX4_smithAt_5 rfl rfl rfl ?_
    refine sr_getR (k := 1) (b := (r + 2)) (pc' := 9) cls_X4 dX4_smithAt_6 rfl hr.1 rfl (by decide) w_4 ?_
    refine sr_alen0 (pc' := 10) dX4_smithAt_9 rfl hr.2.2.1 (by decide) ?_
    refine sr_icmp_ge (pc' := 13) (tgt := 22) dX4_smithAt_10 rfl rfl (fun c10 => ?_) (fun c10 => ?_)
    · refine sr_bipush (pc' := 24) dX4_smithAt_22 rfl (by decide) (by decide) ?_
      exact sr_iretI dX4_smithAt_24 rfl rfl
    · refine sr_aload_n (i := 0) (pc' := 14) dX4_smithAt_13 rfl rfl rfl ?_
      refine sr_getR (k := 1) (b := (r + 2)) (pc' := 17) cls_X4 dX4_smithAt_14 rfl hr.1 rfl (by decide) w_4 ?_
      refine sr_iload_n (i := 1) (pc' := 18) dX4_smithAt_17 rfl rfl rfl ?_
      refine sr_iald (pc' := 19) dX4_smithAt_18 rfl hr.2.2.1 (by decide) (fun v1 hv1 hv1a hv1b => ?_)
      refine sr_goto (pc' := 24) dX4_smithAt_19 rfl ?_
      exact sr_iretI dX4_smithAt_24 rfl rfl
def ww_atR (f : List Int) (a0 : Nat) (μ : Mem)  (x1 : Int) : Option (Int) := if x1 < 0 then (some 0) else (if (f.length : Int) ≤ x1 then (some 0) else ((ldT f x1).bind fun v1 => some v1))
theorem ww_atR_sp {l : Launch} {G : Nv} {Sh : Shp} {f : List Int} {a0 : Nat} (ha0 : (a0, FieldType.int, f) ∈ roArr) (hf : ∀ x ∈ f, C32 x) (hn : f.length < 2147483648) (x1 : Int) (μ : Mem) : SP l G Sh mX8_at [vR a0, vI x1] μ (ww_atR f a0 μ x1) (jI μ) := by
  refine sp_go (lv := [some (vR a0), some (vI x1)]) pn_X8 (Nat.le_of_ble_eq_true rfl) rfl ?_
  unfold ww_atR
  refine sr_iload_n (i := 1) (pc' := 1) dX8_at_0 rfl rfl rfl ?_
  refine sr_if_lt (pc' := 4) (tgt := 16) dX8_at_1 rfl rfl (fun c1 => ?_) (fun c1 => ?_)
  · refine sr_iconst (pc' := 17) dX8_at_16 rfl (by decide) ?_
    exact sr_iretI dX8_at_17 rfl rfl
  · refine sr_iload_n (i := 1) (pc' := 5) dX8_at_4 rfl rfl rfl ?_
    refine sr_aload_n (i := 0) (pc' := 6) dX8_at_5 rfl rfl rfl ?_
    refine sr_tlen (f := f) (pc' := 7) dX8_at_6 rfl ha0 hn ?_
    refine sr_icmp_ge (pc' := 10) (tgt := 16) dX8_at_7 rfl rfl (fun c7 => ?_) (fun c7 => ?_)
    · refine sr_iconst (pc' := 17) dX8_at_16 rfl (by decide) ?_
      exact sr_iretI dX8_at_17 rfl rfl
    · refine sr_aload_n (i := 0) (pc' := 11) dX8_at_10 rfl rfl rfl ?_
      refine sr_iload_n (i := 1) (pc' := 12) dX8_at_11 rfl rfl rfl ?_
      refine sr_tib (pc' := 13) dX8_at_12 rfl ha0 hn hf (fun v1 => ?_)
      refine sr_goto (pc' := 17) dX8_at_13 rfl ?_
      exact sr_iretI dX8_at_17 rfl rfl
def ww_isWidth (μ : Mem)  (x0 : Int) : Option (Int) := if x0 < 0 then (some 0) else (if 3 ≤ x0 then (some 0) else (some 1))
theorem ww_isWidth_sp {l : Launch} {G : Nv} {Sh : Shp}   (x0 : Int) (μ : Mem) : SP l G Sh mX8_isWidth [vI x0] μ (ww_isWidth μ x0) (jI μ) := by
  refine sp_go (lv := [some (vI x0)]) pn_X8 (Nat.le_of_ble_eq_true rfl) rfl ?_
  unfold ww_isWidth
  refine sr_iload_n (i := 0) (pc' := 1) dX8_isWidth_0 rfl rfl rfl ?_
  refine sr_if_lt (pc' := 4) (tgt := 13) dX8_isWidth_1 rfl rfl (fun c1 => ?_) (fun c1 => ?_)
  · refine sr_iconst (pc' := 14) dX8_isWidth_13 rfl (by decide) ?_
    exact sr_iretZ dX8_isWidth_14 rfl (Or.inl rfl) rfl
  · refine sr_iload_n (i := 0) (pc' := 5) dX8_isWidth_4 rfl rfl rfl ?_
    refine sr_iconst (pc' := 6) dX8_isWidth_5 rfl (by decide) ?_
    refine sr_icmp_ge (pc' := 9) (tgt := 13) dX8_isWidth_6 rfl rfl (fun c6 => ?_) (fun c6 => ?_)
    · refine sr_iconst (pc' := 14) dX8_isWidth_13 rfl (by decide) ?_
      exact sr_iretZ dX8_isWidth_14 rfl (Or.inl rfl) rfl
    · refine sr_iconst (pc' := 10) dX8_isWidth_9 rfl (by decide) ?_
      refine sr_goto (pc' := 14) dX8_isWidth_10 rfl ?_
      exact sr_iretZ dX8_isWidth_14 rfl (Or.inr rfl) rfl
def roa_hillAt (r : Nat) (μ : Mem)  (x1 : Int) : Option (Int) := if x1 < 0 then (some (-4)) else (if 21 ≤ x1 then (some (-4)) else ((ld μ (r + 1) 21 x1).bind fun v1 => some v1))
theorem roa_hillAt_sp {l : Launch} {G : Nv} {Sh : Shp} {r : Nat} (hr : IsRoad Sh r) (x1 : Int) (μ : Mem) : SP l G Sh mX4_hillAt [vR r, vI x1] μ (roa_hillAt r μ x1) (jI μ) := by
  refine sp_go (lv := [some (vR r), some (vI x1)]) pn_X4 (Nat.le_of_ble_eq_true rfl) rfl ?_
  unfold roa_hillAt
  refine sr_iload_n (i := 1) (pc' := 1) dX4_hillAt_0 rfl rfl rfl ?_
  refine sr_if_lt (pc' := 4) (tgt := 22) dX4_hillAt_1 rfl rfl (fun c1 => ?_) (fun c1 => ?_)
  · refine sr_bipush (pc' := 24) dX4_hillAt_22 rfl (by decide) (by decide) ?_
    exact sr_iretI dX4_hillAt_24 rfl rfl
  · refine sr_iload_n (i := 1) (pc' := 5) dX4_hillAt_4 rfl rfl rfl ?_
    refine sr_aload_n (i := 0) (pc' := 6) dX4_hillAt_5 rfl rfl rfl ?_
    refine sr_getR (k := 0) (b := (r + 1)) (pc' := 9) cls_X4 dX4_hillAt_6 rfl hr.1 rfl (by decide) w_2 ?_
    refine sr_alen0 (pc' := 10) dX4_hillAt_9 rfl hr.2.1 (by decide) ?_
    refine sr_icmp_ge (pc' := 13) (tgt := 22) dX4_hillAt_10 rfl rfl (fun c10 => ?_) (fun c10 => ?_)
    · refine sr_bipush (pc' := 24) dX4_hillAt_22 rfl (by decide) (by decide) ?_
      exact sr_iretI dX4_hillAt_24 rfl rfl
    · refine sr_aload_n (i := 0) (pc' := 14) dX4_hillAt_13 rfl rfl rfl ?_
      refine sr_getR (k := 0) (b := (r + 1)) (pc' := 17) cls_X4 dX4_hillAt_14 rfl hr.1 rfl (by decide) w_2 ?_
      refine sr_iload_n (i := 1) (pc' := 18) dX4_hillAt_17 rfl rfl rfl ?_
      refine sr_iald (pc' := 19) dX4_hillAt_18 rfl hr.2.1 (by decide) (fun v1 hv1 hv1a hv1b => ?_)
      refine sr_goto (pc' := 24) dX4_hillAt_19 rfl ?_
      exact sr_iretI dX4_hillAt_24 rfl rfl
def roa_hasRut (r : Nat) (μ : Mem)  (x1 x2 : Int) : Option (Int) := (roa_hasYard r μ x1).bind fun u1 => if u1 = 0 then (some 0) else ((ww_isWidth μ x2).bind fun u2 => if u2 = 0 then (some 0) else ((roa_hillAt r μ x1).bind fun u3 => if u3 = (-4) then (some 1) else ((roa_hillAt r μ x1).bind fun u4 => if u4 = x2 then (some 1) else (some 0))))
theorem roa_hasRut_sp {l : Launch} {G : Nv} {Sh : Shp} {r : Nat} (hr : IsRoad Sh r) (x1 x2 : Int) (μ : Mem) : SP l G Sh mX4_hasRut [vR r, vI x1, vI x2] μ (roa_hasRut r μ x1 x2) (jI μ) := by
  refine sp_go (lv := [some (vR r), some (vI x1), some (vI x2)]) pn_X4 (Nat.le_of_ble_eq_true rfl) rfl ?_
  unfold roa_hasRut
  refine sr_aload_n (i := 0) (pc' := 1) dX4_hasRut_0 rfl rfl rfl ?_
  refine sr_iload_n (i := 1) (pc' := 2) dX4_hasRut_1 rfl rfl rfl ?_
  refine sr_callV1_I (pc' := 5) (roa_hasYard_sp hr x1 μ) dX4_hasRut_2 rfl mg_X4_hasYard mi_X4_hasYard (Or.inl ⟨4, _, TX4, 12, hr.1, rfl⟩) ⟨Nat.le_of_ble_eq_true rfl, Nat.le_of_ble_eq_true rfl⟩ w_29 (Nat.le_of_ble_eq_true rfl) (fun u1 hu1 hcu1 hzu1 => ?_)
  refine sr_if_eq (pc' := 8) (tgt := 38) dX4_hasRut_5 rfl rfl (fun c5 => ?_) (fun c5 => ?_)
  · refine sr_iconst (pc' := 39) dX4_hasRut_38 rfl (by decide) ?_
    exact sr_iretZ dX4_hasRut_39 rfl (Or.inl rfl) rfl
  · refine sr_iload_n (i := 2) (pc' := 9) dX4_hasRut_8 rfl rfl rfl ?_
    refine sr_callSN1_I (pc' := 12) (ww_isWidth_sp x2 μ) dX4_hasRut_9 rfl mg_X8_isWidth ms_X8_isWidth ⟨Nat.le_of_ble_eq_true rfl, Nat.le_of_ble_eq_true rfl⟩ w_30 (Nat.le_of_ble_eq_true rfl) (fun u2 hu2 hcu2 hzu2 => ?_)
    refine sr_if_eq (pc' := 15) (tgt := 38) dX4_hasRut_12 rfl rfl (fun c12 => ?_) (fun c12 => ?_)
    · refine sr_iconst (pc' := 39) dX4_hasRut_38 rfl (by decide) ?_
      exact sr_iretZ dX4_hasRut_39 rfl (Or.inl rfl) rfl
    · refine sr_aload_n (i := 0) (pc' := 16) dX4_hasRut_15 rfl rfl rfl ?_
      refine sr_iload_n (i := 1) (pc' := 17) dX4_hasRut_16 rfl rfl rfl ?_
      refine sr_callV1_I (pc' := 20) (roa_hillAt_sp hr x1 μ) dX4_hasRut_17 rfl mg_X4_hillAt mi_X4_hillAt (Or.inl ⟨4, _, TX4, 12, hr.1, rfl⟩) ⟨Nat.le_of_ble_eq_true rfl, Nat.le_of_ble_eq_true rfl⟩ w_31 (Nat.le_of_ble_eq_true rfl) (fun u3 hu3 hcu3 hzu3 => ?_)
      refine sr_bipush (pc' := 22) dX4_hasRut_20 rfl (by decide) (by decide) ?_
      refine sr_icmp_eq (pc' := 25) (tgt := 34) dX4_hasRut_22 rfl rfl (fun c22 => ?_) (fun c22 => ?_)
      · refine sr_iconst (pc' := 35) dX4_hasRut_34 rfl (by decide) ?_
        refine sr_goto (pc' := 39) dX4_hasRut_35 rfl ?_
        exact sr_iretZ dX4_hasRut_39 rfl (Or.inr rfl) rfl
      · refine sr_aload_n (i := 0) (pc' := 26) dX4_hasRut_25 rfl rfl rfl ?_
        refine sr_iload_n (i := 1) (pc' := 27) dX4_hasRut_26 rfl rfl rfl ?_
        refine sr_callV1_I (pc' := 30) (roa_hillAt_sp hr x1 μ) dX4_hasRut_27 rfl mg_X4_hillAt mi_X4_hillAt (Or.inl ⟨4, _, TX4, 12, hr.1, rfl⟩) ⟨Nat.le_of_ble_eq_true rfl, Nat.le_of_ble_eq_true rfl⟩ w_31 (Nat.le_of_ble_eq_true rfl) (fun u4 hu4 hcu4 hzu4 => ?_)
        refine sr_iload_n (i := 2) (pc' := 31) dX4_hasRut_30 rfl rfl rfl ?_
        refine sr_icmp_ne (pc' := 34) (tgt := 38) dX4_hasRut_31 rfl rfl (fun c31 => ?_) (fun c31 => ?_)
        · refine sr_iconst (pc' := 35) dX4_hasRut_34 rfl (by decide) ?_
          refine sr_goto (pc' := 39) dX4_hasRut_35 rfl ?_
          exact sr_iretZ dX4_hasRut_39 rfl (Or.inr rfl) rfl
        · refine sr_iconst (pc' := 39) dX4_hasRut_38 rfl (by decide) ?_
          exact sr_iretZ dX4_hasRut_39 rfl (Or.inl rfl) rfl
def roa_isOpen (r : Nat) (μ : Mem)  (x1 x2 x3 x4 : Int) : Option (Int) := (roa_part r μ x1 0).bind fun u1 => if u1 = 2 then ((roa_hasYard r μ x2).bind fun u2 => some u2) else ((roa_hasRut r μ x2 x3).bind fun u3 => if u3 = 0 then (some 0) else ((roa_part r μ x1 3).bind fun u4 => if u4 < x4 then (some 0) else (some 1)))
theorem roa_isOpen_sp {l : Launch} {G : Nv} {Sh : Shp} {r : Nat} (hr : IsRoad Sh r) (x1 x2 x3 x4 : Int) (μ : Mem) : SP l G Sh mX4_isOpen [vR r, vI x1, vI x2, vI x3, vI x4] μ (roa_isOpen r μ x1 x2 x3 x4) (jI μ) := by
  refine sp_go (lv := [some (vR r), some (vI x1), some (vI x2), some (vI x3), some (vI x4)]) pn_X4 (Nat.le_of_ble_eq_true rfl) rfl ?_
  unfold roa_isOpen
  refine sr_aload_n (i := 0) (pc' := 1) dX4_isOpen_0 rfl rfl rfl ?_
  refine sr_iload_n (i := 1) (pc' := 2) dX4_isOpen_1 rfl rfl rfl ?_
  refine sr_iconst (pc' := 3) dX4_isOpen_2 rfl (by decide) ?_
  refine sr_callV2_I (pc' := 6) (roa_part_sp hr x1 0 μ) dX4_isOpen_3 rfl mg_X4_part mi_X4_part (Or.inl ⟨4, _, TX4, 12, hr.1, rfl⟩) ⟨Nat.le_of_ble_eq_true rfl, Nat.le_of_ble_eq_true rfl⟩ w_32 (Nat.le_of_ble_eq_true rfl) (fun u1 hu1 hcu1 hzu1 => ?_)
  refine sr_iconst (pc' := 7) dX4_isOpen_6 rfl (by decide) ?_
  refine sr_icmp_ne (pc' := 10) (tgt := 16) dX4_isOpen_7 rfl rfl (fun c7 => ?_) (fun c7 => ?_)
  · refine sr_aload_n (i := 0) (pc' := 11) dX4_isOpen_10 rfl rfl rfl ?_
    refine sr_iload_n (i := 2) (pc' := 12) dX4_isOpen_11 rfl rfl rfl ?_
    refine sr_callV1_I (pc' := 15) (roa_hasYard_sp hr x2 μ) dX4_isOpen_12 rfl mg_X4_hasYard mi_X4_hasYard (Or.inl ⟨4, _, TX4, 12, hr.1, rfl⟩) ⟨Nat.le_of_ble_eq_true rfl, Nat.le_of_ble_eq_true rfl⟩ w_29 (Nat.le_of_ble_eq_true rfl) (fun u2 hu2 hcu2 hzu2 => ?_)
    exact sr_iretZ dX4_isOpen_15 rfl (hzu2 rfl)  rfl
  · refine sr_aload_n (i := 0) (pc' := 17) dX4_isOpen_16 rfl rfl rfl ?_
    refine sr_iload_n (i := 2) (pc' := 18) dX4_isOpen_17 rfl rfl rfl ?_
    refine sr_iload_n (i := 3) (pc' := 19) dX4_isOpen_18 rfl rfl rfl ?_
    refine sr_callV2_I (pc' := 22) (roa_hasRut_sp hr x2 x3 μ) dX4_isOpen_19 rfl mg_X4_hasRut mi_X4_hasRut (Or.inl ⟨4, _, TX4, 12, hr.1, rfl⟩) ⟨Nat.le_of_ble_eq_true rfl, Nat.le_of_ble_eq_true rfl⟩ w_33 (Nat.le_of_ble_eq_true rfl) (fun u3 hu3 hcu3 hzu3 => ?_)
    refine sr_if_eq (pc' := 25) (tgt := 40) dX4_isOpen_22 rfl rfl (fun c22 => ?_) (fun c22 => ?_)
    · refine sr_iconst (pc' := 41) dX4_isOpen_40 rfl (by decide) ?_
      exact sr_iretZ dX4_isOpen_41 rfl (Or.inl rfl) rfl
    · refine sr_iload (pc' := 27) dX4_isOpen_25 rfl rfl ?_
      refine sr_aload_n (i := 0) (pc' := 28) dX4_isOpen_27 rfl rfl rfl ?_
      refine sr_iload_n (i := 1) (pc' := 29) dX4_isOpen_28 rfl rfl rfl ?_
      refine sr_iconst (pc' := 30) dX4_isOpen_29 rfl (by decide) ?_
      refine sr_callV2_I (pc' := 33) (roa_part_sp hr x1 3 μ) dX4_isOpen_30 rfl mg_X4_part mi_X4_part (Or.inl ⟨4, _, TX4, 12, hr.1, rfl⟩) ⟨Nat.le_of_ble_eq_true rfl, Nat.le_of_ble_eq_true rfl⟩ w_32 (Nat.le_of_ble_eq_true rfl) (fun u4 hu4 hcu4 hzu4 => ?_)
      refine sr_icmp_gt (pc' := 36) (tgt := 40) dX4_isOpen_33 rfl rfl (fun c33 => ?_) (fun c33 => ?_)
      · refine sr_iconst (pc' := 41) dX4_isOpen_40 rfl (by decide) ?_
        exact sr_iretZ dX4_isOpen_41 rfl (Or.inl rfl) rfl
      · refine sr_iconst (pc' := 37) dX4_isOpen_36 rfl (by decide) ?_
        refine sr_goto (pc' := 41) dX4_isOpen_37 rfl ?_
        exact sr_iretZ dX4_isOpen_41 rfl (Or.inr rfl) rfl
def way_standBehind_70 (μ : Mem)  (x2 x3 s0 : Int) : Option (Int) := if s0 = 0 then (some (-4)) else ((ww_rut μ x3 (wI (x2 - 2))).bind fun u1 => some u1)
theorem way_standBehind_70_s {l : Launch} {G : Nv}   (μ : Mem)   : ∀ (x2 x3 s0 : Int), SR l G S88 mX7_standBehind (way_standBehind_70 μ x2 x3 s0) (jI μ) 70 [none, none, some (vI x2), some (vI x3), none, none] [vI s0] μ := by
  intro x2 x3 s0
  unfold way_standBehind_70
  refine sr_istore (lv' := [none, none, some (vI x2), some (vI x3), none, some (vI s0)]) (pc' := 72) dX7_standBehind_70 rfl (by decide) rfl ?_
  refine sr_iload (pc' := 74) dX7_standBehind_72 rfl rfl ?_
  refine sr_if_eq (pc' := 77) (tgt := 87) dX7_standBehind_74 rfl rfl (fun c74 => ?_) (fun c74 => ?_)
  · refine sr_bipush (pc' := 89) dX7_standBehind_87 rfl (by decide) (by decide) ?_
    exact sr_iretI dX7_standBehind_89 rfl rfl
  · refine sr_iload_n (i := 3) (pc' := 78) dX7_standBehind_77 rfl rfl rfl ?_
    refine sr_iload_n (i := 2) (pc' := 79) dX7_standBehind_78 rfl rfl rfl ?_
    refine sr_iconst (pc' := 80) dX7_standBehind_79 rfl (by decide) ?_
    refine sr_isub (pc' := 81) dX7_standBehind_80 rfl ?_
    refine sr_callSN2_I (pc' := 84) (ww_rut_sp x3 (wI (x2 - 2)) μ) dX7_standBehind_81 rfl mg_X8_rut ms_X8_rut ⟨Nat.le_of_ble_eq_true rfl, Nat.le_of_ble_eq_true rfl⟩ w_28 (Nat.le_of_ble_eq_true rfl) (fun u1 hu1 hcu1 hzu1 => ?_)
    refine sr_goto (pc' := 89) dX7_standBehind_84 rfl ?_
    exact sr_iretI dX7_standBehind_89 rfl rfl
def way_standBehind_103 (μ : Mem)  (x4 s0 : Int) : Option (Int) := (ww_rut μ s0 x4).bind fun u1 => (ww_at 5 63 μ u1).bind fun u2 => (roa_isOpen 1 μ (μ 51 2) s0 x4 u2).bind fun u3 => if u3 = 0 then (some (-4)) else ((ww_rut μ s0 x4).bind fun u4 => some u4)
theorem way_standBehind_103_s {l : Launch} {G : Nv}   (μ : Mem)   : ∀ (x4 s0 : Int), SR l G S88 mX7_standBehind (way_standBehind_103 μ x4 s0) (jI μ) 103 [some (vR 51), none, none, none, some (vI x4), none] [vI s0] μ := by
  intro x4 s0
  unfold way_standBehind_103
  refine sr_istore (lv' := [some (vR 51), none, none, none, some (vI x4), some (vI s0)]) (pc' := 105) dX7_standBehind_103 rfl (by decide) rfl ?_
  refine sr_aload_n (i := 0) (pc' := 106) dX7_standBehind_105 rfl rfl rfl ?_
  refine sr_getR (k := 0) (b := 1) (pc' := 109) cls_X7 dX7_standBehind_106 rfl s88_51 rfl (by decide) w_25 ?_
  refine sr_aload_n (i := 0) (pc' := 110) dX7_standBehind_109 rfl rfl rfl ?_
  refine sr_getI (k := 2) (pc' := 113) cls_X7 dX7_standBehind_110 rfl s88_51 rfl (by decide) w_26 ?_
  refine sr_iload (pc' := 115) dX7_standBehind_113 rfl rfl ?_
  refine sr_iload (pc' := 117) dX7_standBehind_115 rfl rfl ?_
  refine sr_aload_n (i := 0) (pc' := 118) dX7_standBehind_117 rfl rfl rfl ?_
  refine sr_getR (k := 0) (b := 1) (pc' := 121) cls_X7 dX7_standBehind_118 rfl s88_51 rfl (by decide) w_25 ?_
  refine sr_getR (k := 3) (b := 5) (pc' := 124) cls_X4 dX7_standBehind_121 rfl isRoad_1.1 rfl (by decide) w_34 ?_
  refine sr_iload (pc' := 126) dX7_standBehind_124 rfl rfl ?_
  refine sr_iload (pc' := 128) dX7_standBehind_126 rfl rfl ?_
  refine sr_callSN2_I (pc' := 131) (ww_rut_sp s0 x4 μ) dX7_standBehind_128 rfl mg_X8_rut ms_X8_rut ⟨Nat.le_of_ble_eq_true rfl, Nat.le_of_ble_eq_true rfl⟩ w_28 (Nat.le_of_ble_eq_true rfl) (fun u1 hu1 hcu1 hzu1 => ?_)
  refine sr_callSN2_I (pc' := 134) (ww_at_sp isRoad_1.2.2.2.2.1 (by decide) u1 μ) dX7_standBehind_131 rfl mg_X8_at ms_X8_at ⟨Nat.le_of_ble_eq_true rfl, Nat.le_of_ble_eq_true rfl⟩ w_35 (Nat.le_of_ble_eq_true rfl) (fun u2 hu2 hcu2 hzu2 => ?_)
  refine sr_callVN4_I (pc' := 137) (roa_isOpen_sp isRoad_1 (μ 51 2) s0 x4 u2 μ) dX7_standBehind_134 rfl mg_X4_isOpen mi_X4_isOpen (Or.inl ⟨4, _, TX4, 12, isRoad_1.1, rfl⟩) ⟨Nat.le_of_ble_eq_true rfl, Nat.le_of_ble_eq_true rfl⟩ w_36 (Nat.le_of_ble_eq_true rfl) (fun u3 hu3 hcu3 hzu3 => ?_)
  refine sr_if_eq (pc' := 140) (tgt := 150) dX7_standBehind_137 rfl rfl (fun c137 => ?_) (fun c137 => ?_)
  · refine sr_bipush (pc' := 152) dX7_standBehind_150 rfl (by decide) (by decide) ?_
    exact sr_iretI dX7_standBehind_152 rfl rfl
  · refine sr_iload (pc' := 142) dX7_standBehind_140 rfl rfl ?_
    refine sr_iload (pc' := 144) dX7_standBehind_142 rfl rfl ?_
    refine sr_callSN2_I (pc' := 147) (ww_rut_sp s0 x4 μ) dX7_standBehind_144 rfl mg_X8_rut ms_X8_rut ⟨Nat.le_of_ble_eq_true rfl, Nat.le_of_ble_eq_true rfl⟩ w_28 (Nat.le_of_ble_eq_true rfl) (fun u4 hu4 hcu4 hzu4 => ?_)
    refine sr_goto (pc' := 152) dX7_standBehind_147 rfl ?_
    exact sr_iretI dX7_standBehind_152 rfl rfl
def way_standBehind (μ : Mem)  (x1 x2 : Int) : Option (Int) := bnd (iDiv x1 3) fun v1 => bnd (iRem x1 3) fun v2 => (roa_hasYard 1 μ v1).bind fun u3 => if u3 = 0 then (some (-4)) else (if x2 < 2 then (if x2 = 0 then (way_standBehind_103 μ v2 (wI (v1 + 1))) else (way_standBehind_103 μ v2 (wI (v1 - 1)))) else (if (wI (x2 - 2)) = v2 then (way_standBehind_70 μ x2 v1 0) else ((roa_smithAt 1 μ v1).bind fun u4 => if u4 = (-4) then (way_standBehind_70 μ x2 v1 0) else ((roa_part 1 μ (μ 51 2) 0).bind fun u5 => if u5 = 3 then (way_standBehind_70 μ x2 v1 0) else (way_standBehind_70 μ x2 v1 1)))))
theorem way_standBehind_sp {l : Launch} {G : Nv}   (x1 x2 : Int) (μ : Mem) : SP l G S88 mX7_standBehind [vR 51, vI x1, vI x2] μ (way_standBehind μ x1 x2) (jI μ) := by
  refine sp_go (lv := [some (vR 51), some (vI x1), some (vI x2), none, none, none]) pn_X7 (Nat.le_of_ble_eq_true rfl) rfl ?_
  unfold way_standBehind
  refine sr_iload_n (i := 1) (pc' := 1) dX7_standBehind_0 rfl rfl rfl ?_
  refine sr_iconst (pc' := 2) dX7_standBehind_1 rfl (by decide) ?_
  refine sr_idiv (pc' := 3) dX7_standBehind_2 rfl (by decide) ?_
  refine sr_bnd (fun v1 hv1 => ?_)
  refine sr_istore_n (i := 3) (lv' := [some (vR 51), some (vI x1), some (vI x2), some (vI v1), none, none]) (pc' := 4) dX7_standBehind_3 rfl rfl (by decide) rfl ?_
  refine sr_iload_n (i := 1) (pc' := 5) dX7_standBehind_4 rfl rfl rfl ?_
  refine sr_iconst (pc' := 6) dX7_standBehind_5 rfl (by decide) ?_
  refine sr_irem (pc' := 7) dX7_standBehind_6 rfl (by decide) ?_
  refine sr_bnd (fun v2 hv2 => ?_)
  refine sr_istore (lv' := [some (vR 51), some (vI x1), some (vI x2), some (vI v1), some (vI v2), none]) (pc' := 9) dX7_standBehind_7 rfl (by decide) rfl ?_
  refine sr_aload_n (i := 0) (pc' := 10) dX7_standBehind_9 rfl rfl rfl ?_
  refine sr_getR (k := 0) (b := 1) (pc' := 13) cls_X7 dX7_standBehind_10 rfl s88_51 rfl (by decide) w_25 ?_
  refine sr_iload_n (i := 3) (pc' := 14) dX7_standBehind_13 rfl rfl rfl ?_
  refine sr_callVN1_I (pc' := 17) (roa_hasYard_sp isRoad_1 v1 μ) dX7_standBehind_14 rfl mg_X4_hasYard mi_X4_hasYard (Or.inl ⟨4, _, TX4, 12, isRoad_1.1, rfl⟩) ⟨Nat.le_of_ble_eq_true rfl, Nat.le_of_ble_eq_true rfl⟩ w_37 (Nat.le_of_ble_eq_true rfl) (fun u3 hu3 hcu3 hzu3 => ?_)
  refine sr_if_ne (pc' := 20) (tgt := 23) dX7_standBehind_17 rfl rfl (fun c17 => ?_) (fun c17 => ?_)
  · refine sr_bipush (pc' := 22) dX7_standBehind_20 rfl (by decide) (by decide) ?_
    exact sr_iretI dX7_standBehind_22 rfl rfl
  · refine sr_iload_n (i := 2) (pc' := 24) dX7_standBehind_23 rfl rfl rfl ?_
    refine sr_iconst (pc' := 25) dX7_standBehind_24 rfl (by decide) ?_
    refine sr_icmp_lt (pc' := 28) (tgt := 90) dX7_standBehind_25 rfl rfl (fun c25 => ?_) (fun c25 => ?_)
    · refine sr_iload_n (i := 2) (pc' := 91) dX7_standBehind_90 rfl rfl rfl ?_
      refine sr_if_ne (pc' := 94) (tgt := 100) dX7_standBehind_91 rfl rfl (fun c91 => ?_) (fun c91 => ?_)
      · refine sr_iload_n (i := 3) (pc' := 95) dX7_standBehind_94 rfl rfl rfl ?_
        refine sr_iconst (pc' := 96) dX7_standBehind_95 rfl (by decide) ?_
        refine sr_iadd (pc' := 97) dX7_standBehind_96 rfl ?_
        refine sr_goto (pc' := 103) dX7_standBehind_97 rfl ?_
        refine sr_fgt (fgt_s (fgt_n (fgt_n (fgt_n (fgt_s (fgt_s fgt_nil)))))) ?_
        exact way_standBehind_103_s μ v2 (wI (v1 + 1))
      · refine sr_iload_n (i := 3) (pc' := 101) dX7_standBehind_100 rfl rfl rfl ?_
        refine sr_iconst (pc' := 102) dX7_standBehind_101 rfl (by decide) ?_
        refine sr_isub (pc' := 103) dX7_standBehind_102 rfl ?_
        refine sr_fgt (fgt_s (fgt_n (fgt_n (fgt_n (fgt_s (fgt_s fgt_nil)))))) ?_
        exact way_standBehind_103_s μ v2 (wI (v1 - 1))
    · refine sr_iload_n (i := 2) (pc' := 29) dX7_standBehind_28 rfl rfl rfl ?_
      refine sr_iconst (pc' := 30) dX7_standBehind_29 rfl (by decide) ?_
      refine sr_isub (pc' := 31) dX7_standBehind_30 rfl ?_
      refine sr_iload (pc' := 33) dX7_standBehind_31 rfl rfl ?_
      refine sr_icmp_eq (pc' := 36) (tgt := 69) dX7_standBehind_33 rfl rfl (fun c33 => ?_) (fun c33 => ?_)
      · refine sr_iconst (pc' := 70) dX7_standBehind_69 rfl (by decide) ?_
        refine sr_fgt (fgt_n (fgt_n (fgt_s (fgt_s (fgt_n (fgt_s fgt_nil)))))) ?_
        exact way_standBehind_70_s μ x2 v1 0
      · refine sr_aload_n (i := 0) (pc' := 37) dX7_standBehind_36 rfl rfl rfl ?_
        refine sr_getR (k := 0) (b := 1) (pc' := 40) cls_X7 dX7_standBehind_37 rfl s88_51 rfl (by decide) w_25 ?_
        refine sr_iload_n (i := 3) (pc' := 41) dX7_standBehind_40 rfl rfl rfl ?_
        refine sr_callVN1_I (pc' := 44) (roa_smithAt_sp isRoad_1 v1 μ) dX7_standBehind_41 rfl mg_X4_smithAt mi_X4_smithAt (Or.inl ⟨4, _, TX4, 12, isRoad_1.1, rfl⟩) ⟨Nat.le_of_ble_eq_true rfl, Nat.le_of_ble_eq_true rfl⟩ w_38 (Nat.le_of_ble_eq_true rfl) (fun u4 hu4 hcu4 hzu4 => ?_)
        refine sr_bipush (pc' := 46) dX7_standBehind_44 rfl (by decide) (by decide) ?_
        refine sr_icmp_eq (pc' := 49) (tgt := 69) dX7_standBehind_46 rfl rfl (fun c46 => ?_) (fun c46 => ?_)
        · refine sr_iconst (pc' := 70) dX7_standBehind_69 rfl (by decide) ?_
          refine sr_fgt (fgt_n (fgt_n (fgt_s (fgt_s (fgt_n (fgt_s fgt_nil)))))) ?_
          exact way_standBehind_70_s μ x2 v1 0
        · refine sr_aload_n (i := 0) (pc' := 50) dX7_standBehind_49 rfl rfl rfl ?_
          refine sr_getR (k := 0) (b := 1) (pc' := 53) cls_X7 dX7_standBehind_50 rfl s88_51 rfl (by decide) w_25 ?_
          refine sr_aload_n (i := 0) (pc' := 54) dX7_standBehind_53 rfl rfl rfl ?_
          refine sr_getI (k := 2) (pc' := 57) cls_X7 dX7_standBehind_54 rfl s88_51 rfl (by decide) w_26 ?_
          refine sr_iconst (pc' := 58) dX7_standBehind_57 rfl (by decide) ?_
          refine sr_callVN2_I (pc' := 61) (roa_part_sp isRoad_1 (μ 51 2) 0 μ) dX7_standBehind_58 rfl mg_X4_part mi_X4_part (Or.inl ⟨4, _, TX4, 12, isRoad_1.1, rfl⟩) ⟨Nat.le_of_ble_eq_true rfl, Nat.le_of_ble_eq_true rfl⟩ w_27 (Nat.le_of_ble_eq_true rfl) (fun u5 hu5 hcu5 hzu5 => ?_)
          refine sr_iconst (pc' := 62) dX7_standBehind_61 rfl (by decide) ?_
          refine sr_icmp_eq (pc' := 65) (tgt := 69) dX7_standBehind_62 rfl rfl (fun c62 => ?_) (fun c62 => ?_)
          · refine sr_iconst (pc' := 70) dX7_standBehind_69 rfl (by decide) ?_
            refine sr_fgt (fgt_n (fgt_n (fgt_s (fgt_s (fgt_n (fgt_s fgt_nil)))))) ?_
            exact way_standBehind_70_s μ x2 v1 0
          · refine sr_iconst (pc' := 66) dX7_standBehind_65 rfl (by decide) ?_
            refine sr_goto (pc' := 70) dX7_standBehind_66 rfl ?_
            refine sr_fgt (fgt_n (fgt_n (fgt_s (fgt_s (fgt_n (fgt_s fgt_nil)))))) ?_
            exact way_standBehind_70_s μ x2 v1 1
def way_standsBehind_32 (μ : Mem) (k5 : Int → Int → Int → Option (Int)) (x1 x2 x4 : Int) : Option (Int) := k5 x1 x2 (wI (x4 + 1))
theorem way_standsBehind_32_s {l : Launch} {G : Nv}   (μ : Mem) {k5 : Int → Int → Int → Option (Int)} (hk5 : ∀ (x1 x2 x4 : Int) , SR l G S88 mX7_standsBehind (k5 x1 x2 x4) (jL μ) 5 [some (vR 51), some (vI x1), some (vL x2), none, some (vI x4), none] [] μ) : ∀ (x1 x2 x4 : Int), SR l G S88 mX7_standsBehind (way_standsBehind_32 μ k5 x1 x2 x4) (jL μ) 32 [some (vR 51), some (vI x1), some (vL x2), none, some (vI x4), none] [] μ := by
  intro x1 x2 x4
  unfold way_standsBehind_32
  refine sr_iinc (lv' := [some (vR 51), some (vI x1), some (vL x2), none, some (vI (wI (x4 + 1))), none]) (pc' := 35) dX7_standsBehind_32 rfl (by decide) rfl rfl ?_
  refine sr_goto (pc' := 5) dX7_standsBehind_35 rfl ?_
  exact hk5 x1 x2 (wI (x4 + 1))
def way_standsBehind_5 (μ : Mem)  : Nat → Int → Int → Int → Option (Int)
  | 0, _, _, _ => none
  | n + 1, x1, x2, x4 => if 5 ≤ x4 then (some x2) else ((way_standBehind μ x1 x4).bind fun u1 => if u1 < 0 then (way_standsBehind_32 μ (way_standsBehind_5 μ n) x1 x2 x4) else (bnd (lOr x2 (lShl 1 u1)) fun v2 => way_standsBehind_32 μ (way_standsBehind_5 μ n) x1 v2 x4))
theorem way_standsBehind_5_s {l : Launch} {G : Nv}   (μ : Mem)   : ∀ (n : Nat) (x1 x2 x4 : Int), SR l G S88 mX7_standsBehind (way_standsBehind_5 μ n x1 x2 x4) (jL μ) 5 [some (vR 51), some (vI x1), some (vL x2), none, some (vI x4), none] [] μ := by
  intro n
  induction n with
  | zero => intro x1 x2 x4; exact sr_none
  | succ n ih =>
    intro x1 x2 x4
    rw [way_standsBehind_5.eq_2]
    refine sr_iload (pc' := 7) dX7_standsBehind_5 rfl rfl ?_
    refine sr_iconst (pc' := 8) dX7_standsBehind_7 rfl (by decide) ?_
    refine sr_icmp_ge (pc' := 11) (tgt := 38) dX7_standsBehind_8 rfl rfl (fun c8 => ?_) (fun c8 => ?_)
    · refine sr_lload_n (i := 2) (pc' := 39) dX7_standsBehind_38 rfl rfl rfl ?_
      exact sr_lret dX7_standsBehind_39 rfl rfl
    · refine sr_aload_n (i := 0) (pc' := 12) dX7_standsBehind_11 rfl rfl rfl ?_
      refine sr_iload_n (i := 1) (pc' := 13) dX7_standsBehind_12 rfl rfl rfl ?_
      refine sr_iload (pc' := 15) dX7_standsBehind_13 rfl rfl ?_
      refine sr_callV2_I (pc' := 18) (way_standBehind_sp x1 x4 μ) dX7_standsBehind_15 rfl mg_X7_standBehind mi_X7_standBehind (Or.inl ⟨7, _, TX7, 4, s88_51, rfl⟩) ⟨Nat.le_of_ble_eq_true rfl, Nat.le_of_ble_eq_true rfl⟩ w_39 (Nat.le_of_ble_eq_true rfl) (fun u1 hu1 hcu1 hzu1 => ?_)
      refine sr_istore (lv' := [some (vR 51), some (vI x1), some (vL x2), none, some (vI x4), some (vI u1)]) (pc' := 20) dX7_standsBehind_18 rfl (by decide) rfl ?_
      refine sr_iload (pc' := 22) dX7_standsBehind_20 rfl rfl ?_
      refine sr_if_lt (pc' := 25) (tgt := 32) dX7_standsBehind_22 rfl rfl (fun c22 => ?_) (fun c22 => ?_)
      · refine sr_fgt (fgt_s (fgt_s (fgt_s (fgt_s (fgt_s (fgt_n fgt_nil)))))) ?_
        exact way_standsBehind_32_s μ ih x1 x2 x4
      · refine sr_lload_n (i := 2) (pc' := 26) dX7_standsBehind_25 rfl rfl rfl ?_
        refine sr_lconst (x := 1) (pc' := 27) dX7_standsBehind_26 rfl (by decide) rfl ?_
        refine sr_iload (pc' := 29) dX7_standsBehind_27 rfl rfl ?_
        refine sr_lshl (pc' := 30) dX7_standsBehind_29 rfl ?_
        refine sr_lor (pc' := 31) dX7_standsBehind_30 rfl ?_
        refine sr_bndL (fun v2 hv2 => ?_)
        refine sr_lstore_n (i := 2) (lv' := [some (vR 51), some (vI x1), some (vL v2), none, some (vI x4), some (vI u1)]) (pc' := 32) dX7_standsBehind_31 rfl rfl (by decide) rfl ?_
        refine sr_fgt (fgt_s (fgt_s (fgt_s (fgt_s (fgt_s (fgt_n fgt_nil)))))) ?_
        exact way_standsBehind_32_s μ ih x1 v2 x4
def way_standsBehind (μ : Mem)  (x1 : Int) : Option (Int) := way_standsBehind_5 μ BIG x1 0 0
theorem way_standsBehind_sp {l : Launch} {G : Nv}   (x1 : Int) (μ : Mem) : SP l G S88 mX7_standsBehind [vR 51, vI x1] μ (way_standsBehind μ x1) (jL μ) := by
  refine sp_go (lv := [some (vR 51), some (vI x1), none, none, none, none]) pn_X7 (Nat.le_of_ble_eq_true rfl) rfl ?_
  unfold way_standsBehind
  refine sr_lconst (x := 0) (pc' := 1) dX7_standsBehind_0 rfl (by decide) rfl ?_
  refine sr_lstore_n (i := 2) (lv' := [some (vR 51), some (vI x1), some (vL 0), none, none, none]) (pc' := 2) dX7_standsBehind_1 rfl rfl (by decide) rfl ?_
  refine sr_iconst (pc' := 3) dX7_standsBehind_2 rfl (by decide) ?_
  refine sr_istore (lv' := [some (vR 51), some (vI x1), some (vL 0), none, some (vI 0), none]) (pc' := 5) dX7_standsBehind_3 rfl (by decide) rfl ?_
  exact way_standsBehind_5_s μ BIG x1 0 0
def way_reached_65  (k38 : Int → Int → Int → Int → Mem → Option (Int × Mem)) (x2 x4 x6 x7 : Int) (μ : Mem) : Option (Int × Mem) := k38 x2 x4 x6 (wI (x7 + 1)) μ
theorem way_reached_65_s {l : Launch} {G : Nv}   {k38 : Int → Int → Int → Int → Mem → Option (Int × Mem)} (hk38 : ∀ (x2 x4 x6 x7 : Int) (μ : Mem) , SR l G S88 mX7_reached (k38 x2 x4 x6 x7 μ) jIM 38 [some (vR 51), none, some (vL x2), none, some (vL x4), none, some (vI x6), some (vI x7)] [] μ) : ∀ (x2 x4 x6 x7 : Int) (μ : Mem), SR l G S88 mX7_reached (way_reached_65 k38 x2 x4 x6 x7 μ) jIM 65 [some (vR 51), none, some (vL x2), none, some (vL x4), none, some (vI x6), some (vI x7)] [] μ := by
  intro x2 x4 x6 x7 μ
  unfold way_reached_65
  refine sr_iinc (lv' := [some (vR 51), none, some (vL x2), none, some (vL x4), none, some (vI x6), some (vI (wI (x7 + 1)))]) (pc' := 68) dX7_reached_65 rfl (by decide) rfl rfl ?_
  refine sr_goto (pc' := 38) dX7_reached_68 rfl ?_
  exact hk38 x2 x4 x6 (wI (x7 + 1)) μ
def way_reached_38  (k18 : Int → Int → Int → Mem → Option (Int × Mem)) : Nat → Int → Int → Int → Int → Mem → Option (Int × Mem)
  | 0, _, _, _, _, _ => none
  | n + 1, x2, x4, x6, x7, μ => if 63 ≤ x7 then (k18 x2 x4 (wI (x6 + 1)) μ) else (if (lCmp (lAnd (lShr x2 x7) 1) 0) = 0 then (way_reached_65 (way_reached_38 k18 n) x2 x4 x6 x7 μ) else ((way_standsBehind μ x7).bind fun u1 => bnd (lOr x2 u1) fun v2 => way_reached_65 (way_reached_38 k18 n) v2 x4 x6 x7 μ))
theorem way_reached_38_s {l : Launch} {G : Nv}   {k18 : Int → Int → Int → Mem → Option (Int × Mem)} (hk18 : ∀ (x2 x4 x6 : Int) (μ : Mem) , SR l G S88 mX7_reached (k18 x2 x4 x6 μ) jIM 18 [some (vR 51), none, some (vL x2), none, some (vL x4), none, some (vI x6), none] [] μ) : ∀ (n : Nat) (x2 x4 x6 x7 : Int) (μ : Mem), SR l G S88 mX7_reached (way_reached_38 k18 n x2 x4 x6 x7 μ) jIM 38 [some (vR 51), none, some (vL x2), none, some (vL x4), none, some (vI x6), some (vI x7)] [] μ := by
  intro n
  induction n with
  | zero => intro x2 x4 x6 x7 μ; exact sr_none
  | succ n ih =>
    intro x2 x4 x6 x7 μ
    rw [way_reached_38.eq_2]
    refine sr_iload (pc' := 40) dX7_reached_38 rfl rfl ?_
    refine sr_bipush (pc' := 42) dX7_reached_40 rfl (by decide) (by decide) ?_
    refine sr_icmp_ge (pc' := 45) (tgt := 71) dX7_reached_42 rfl rfl (fun c42 => ?_) (fun c42 => ?_)
    · refine sr_iinc (lv' := [some (vR 51), none, some (vL x2), none, some (vL x4), none, some (vI (wI (x6 + 1))), some (vI x7)]) (pc' := 74) dX7_reached_71 rfl (by decide) rfl rfl ?_
      refine sr_goto (pc' := 18) dX7_reached_74 rfl ?_
      refine sr_fgt (fgt_s (fgt_s (fgt_s (fgt_s (fgt_s (fgt_s (fgt_s (fgt_n fgt_nil)))))))) ?_
      exact hk18 x2 x4 (wI (x6 + 1)) μ
    · refine sr_lload_n (i := 2) (pc' := 46) dX7_reached_45 rfl rfl rfl ?_
      refine sr_iload (pc' := 48) dX7_reached_46 rfl rfl ?_
      refine sr_lshr (pc' := 49) dX7_reached_48 rfl ?_
      refine sr_lconst (x := 1) (pc' := 50) dX7_reached_49 rfl (by decide) rfl ?_
      refine sr_land (pc' := 51) dX7_reached_50 rfl ?_
      refine sr_lconst (x := 0) (pc' := 52) dX7_reached_51 rfl (by decide) rfl ?_
      refine sr_lcmp (pc' := 53) dX7_reached_52 rfl ?_
      refine sr_if_eq (pc' := 56) (tgt := 65) dX7_reached_53 rfl rfl (fun c53 => ?_) (fun c53 => ?_)
      · exact way_reached_65_s ih x2 x4 x6 x7 μ
      · refine sr_lload_n (i := 2) (pc' := 57) dX7_reached_56 rfl rfl rfl ?_
        refine sr_aload_n (i := 0) (pc' := 58) dX7_reached_57 rfl rfl rfl ?_
        refine sr_iload (pc' := 60) dX7_reached_58 rfl rfl ?_
        refine sr_callV1_L (pc' := 63) (way_standsBehind_sp x7 μ) dX7_reached_60 rfl mg_X7_standsBehind mi_X7_standsBehind (Or.inl ⟨7, _, TX7, 4, s88_51, rfl⟩) ⟨Nat.le_of_ble_eq_true rfl, Nat.le_of_ble_eq_true rfl⟩ w_40 (Nat.le_of_ble_eq_true rfl) (fun u1 hu1 hcu1 => ?_)
        refine sr_lor (pc' := 64) dX7_reached_63 rfl ?_
        refine sr_bndL (fun v2 hv2 => ?_)
        refine sr_lstore_n (i := 2) (lv' := [some (vR 51), none, some (vL v2), none, some (vL x4), none, some (vI x6), some (vI x7)]) (pc' := 65) dX7_reached_64 rfl rfl (by decide) rfl ?_
        exact way_reached_65_s ih v2 x4 x6 x7 μ
def way_reached_112  (k83 : Int → Int → Int → Mem → Option (Int × Mem)) (x2 x6 x7 : Int) (μ : Mem) : Option (Int × Mem) := k83 x2 x6 (wI (x7 + 1)) μ
theorem way_reached_112_s {l : Launch} {G : Nv}   {k83 : Int → Int → Int → Mem → Option (Int × Mem)} (hk83 : ∀ (x2 x6 x7 : Int) (μ : Mem) , SR l G S88 mX7_reached (k83 x2 x6 x7 μ) jIM 83 [none, none, some (vL x2), none, none, none, some (vI x6), some (vI x7)] [] μ) : ∀ (x2 x6 x7 : Int) (μ : Mem), SR l G S88 mX7_reached (way_reached_112 k83 x2 x6 x7 μ) jIM 112 [none, none, some (vL x2), none, none, none, some (vI x6), some (vI x7)] [] μ := by
  intro x2 x6 x7 μ
  unfold way_reached_112
  refine sr_iinc (lv' := [none, none, some (vL x2), none, none, none, some (vI x6), some (vI (wI (x7 + 1)))]) (pc' := 115) dX7_reached_112 rfl (by decide) rfl rfl ?_
  refine sr_goto (pc' := 83) dX7_reached_115 rfl ?_
  exact hk83 x2 x6 (wI (x7 + 1)) μ
def way_reached_83   : Nat → Int → Int → Int → Mem → Option (Int × Mem)
  | 0, _, _, _, _ => none
  | n + 1, x2, x6, x7, μ => if 63 ≤ x7 then (some (x6, μ)) else (if (lCmp (lAnd (lShr x2 x7) 1) 0) = 0 then (way_reached_112 (way_reached_83 n) x2 x6 x7 μ) else (bnd (iOr x6 (iShl 1 (iDiv x7 3))) fun v1 => way_reached_112 (way_reached_83 n) x2 v1 x7 μ))
theorem way_reached_83_s {l : Launch} {G : Nv}     : ∀ (n : Nat) (x2 x6 x7 : Int) (μ : Mem), SR l G S88 mX7_reached (way_reached_83 n x2 x6 x7 μ) jIM 83 [none, none, some (vL x2), none, none, none, some (vI x6), some (vI x7)] [] μ := by
  intro n
  induction n with
  | zero => intro x2 x6 x7 μ; exact sr_none
  | succ n ih =>
    intro x2 x6 x7 μ
    rw [way_reached_83.eq_2]
    refine sr_iload (pc' := 85) dX7_reached_83 rfl rfl ?_
    refine sr_bipush (pc' := 87) dX7_reached_85 rfl (by decide) (by decide) ?_
    refine sr_icmp_ge (pc' := 90) (tgt := 118) dX7_reached_87 rfl rfl (fun c87 => ?_) (fun c87 => ?_)
    · refine sr_iload (pc' := 120) dX7_reached_118 rfl rfl ?_
      exact sr_iretI dX7_reached_120 rfl rfl
    · refine sr_lload_n (i := 2) (pc' := 91) dX7_reached_90 rfl rfl rfl ?_
      refine sr_iload (pc' := 93) dX7_reached_91 rfl rfl ?_
      refine sr_lshr (pc' := 94) dX7_reached_93 rfl ?_
      refine sr_lconst (x := 1) (pc' := 95) dX7_reached_94 rfl (by decide) rfl ?_
      refine sr_land (pc' := 96) dX7_reached_95 rfl ?_
      refine sr_lconst (x := 0) (pc' := 97) dX7_reached_96 rfl (by decide) rfl ?_
      refine sr_lcmp (pc' := 98) dX7_reached_97 rfl ?_
      refine sr_if_eq (pc' := 101) (tgt := 112) dX7_reached_98 rfl rfl (fun c98 => ?_) (fun c98 => ?_)
      · exact way_reached_112_s ih x2 x6 x7 μ
      · refine sr_iload (pc' := 103) dX7_reached_101 rfl rfl ?_
        refine sr_iconst (pc' := 104) dX7_reached_103 rfl (by decide) ?_
        refine sr_iload (pc' := 106) dX7_reached_104 rfl rfl ?_
        refine sr_iconst (pc' := 107) dX7_reached_106 rfl (by decide) ?_
        refine sr_idiv (pc' := 108) dX7_reached_107 rfl (by decide) ?_
        refine sr_ishl (pc' := 109) dX7_reached_108 rfl ?_
        refine sr_ior (pc' := 110) dX7_reached_109 rfl ?_
        refine sr_bnd (fun v1 hv1 => ?_)
        refine sr_istore (lv' := [none, none, some (vL x2), none, none, none, some (vI v1), some (vI x7)]) (pc' := 112) dX7_reached_110 rfl (by decide) rfl ?_
        exact way_reached_112_s ih x2 v1 x7 μ
def way_reached_77   (x2 : Int) (μ : Mem) : Option (Int × Mem) := way_reached_83 BIG x2 0 0 μ
theorem way_reached_77_s {l : Launch} {G : Nv}     : ∀ (x2 : Int) (μ : Mem), SR l G S88 mX7_reached (way_reached_77 x2 μ) jIM 77 [none, none, some (vL x2), none, none, none, none, none] [] μ := by
  intro x2 μ
  unfold way_reached_77
  refine sr_iconst (pc' := 78) dX7_reached_77 rfl (by decide) ?_
  refine sr_istore (lv' := [none, none, some (vL x2), none, none, none, some (vI 0), none]) (pc' := 80) dX7_reached_78 rfl (by decide) rfl ?_
  refine sr_iconst (pc' := 81) dX7_reached_80 rfl (by decide) ?_
  refine sr_istore (lv' := [none, none, some (vL x2), none, none, none, some (vI 0), some (vI 0)]) (pc' := 83) dX7_reached_81 rfl (by decide) rfl ?_
  exact way_reached_83_s BIG x2 0 0 μ
def way_reached_18   : Nat → Int → Int → Int → Mem → Option (Int × Mem)
  | 0, _, _, _, _ => none
  | n + 1, x2, x4, x6, μ => if (lCmp x2 x4) = 0 then (way_reached_77 x2 μ) else (if 63 < x6 then (way_reached_77 x2 μ) else (way_reached_38 (way_reached_18 n) BIG x2 x2 x6 0 μ))
theorem way_reached_18_s {l : Launch} {G : Nv}     : ∀ (n : Nat) (x2 x4 x6 : Int) (μ : Mem), SR l G S88 mX7_reached (way_reached_18 n x2 x4 x6 μ) jIM 18 [some (vR 51), none, some (vL x2), none, some (vL x4), none, some (vI x6), none] [] μ := by
  intro n
  induction n with
  | zero => intro x2 x4 x6 μ; exact sr_none
  | succ n ih =>
    intro x2 x4 x6 μ
    rw [way_reached_18.eq_2]
    refine sr_lload_n (i := 2) (pc' := 19) dX7_reached_18 rfl rfl rfl ?_
    refine sr_lload (pc' := 21) dX7_reached_19 rfl rfl ?_
    refine sr_lcmp (pc' := 22) dX7_reached_21 rfl ?_
    refine sr_if_eq (pc' := 25) (tgt := 77) dX7_reached_22 rfl rfl (fun c22 => ?_) (fun c22 => ?_)
    · refine sr_fgt (fgt_n (fgt_s (fgt_s (fgt_s (fgt_n (fgt_s (fgt_n (fgt_s fgt_nil)))))))) ?_
      exact way_reached_77_s x2 μ
    · refine sr_iload (pc' := 27) dX7_reached_25 rfl rfl ?_
      refine sr_bipush (pc' := 29) dX7_reached_27 rfl (by decide) (by decide) ?_
      refine sr_icmp_gt (pc' := 32) (tgt := 77) dX7_reached_29 rfl rfl (fun c29 => ?_) (fun c29 => ?_)
      · refine sr_fgt (fgt_n (fgt_s (fgt_s (fgt_s (fgt_n (fgt_s (fgt_n (fgt_s fgt_nil)))))))) ?_
        exact way_reached_77_s x2 μ
      · refine sr_lload_n (i := 2) (pc' := 33) dX7_reached_32 rfl rfl rfl ?_
        refine sr_lstore (lv' := [some (vR 51), none, some (vL x2), none, some (vL x2), none, some (vI x6), none]) (pc' := 35) dX7_reached_33 rfl (by decide) rfl ?_
        refine sr_iconst (pc' := 36) dX7_reached_35 rfl (by decide) ?_
        refine sr_istore (lv' := [some (vR 51), none, some (vL x2), none, some (vL x2), none, some (vI x6), some (vI 0)]) (pc' := 38) dX7_reached_36 rfl (by decide) rfl ?_
        exact way_reached_38_s ih BIG x2 x2 x6 0 μ
def way_reached   (x1 : Int) (μ : Mem) : Option (Int × Mem) := bnd (mset μ 51 2 x1) fun μ1 => (way_begin μ1).bind fun u2 => bnd (lShl 1 u2) fun v3 => way_reached_18 BIG v3 0 0 μ1
theorem way_reached_sp {l : Launch} {G : Nv}   (x1 : Int) (μ : Mem) : SP l G S88 mX7_reached [vR 51, vI x1] μ (way_reached x1 μ) jIM := by
  refine sp_go (lv := [some (vR 51), some (vI x1), none, none, none, none, none, none]) pn_X7 (Nat.le_of_ble_eq_true rfl) rfl ?_
  unfold way_reached
  refine sr_aload_n (i := 0) (pc' := 1) dX7_reached_0 rfl rfl rfl ?_
  refine sr_iload_n (i := 1) (pc' := 2) dX7_reached_1 rfl rfl rfl ?_
  refine sr_putI (k := 2) (pc' := 5) cls_X7 dX7_reached_2 rfl s88_51 rfl (by decide) w_26 rfl rfl (fun μ1 hμ1 => ?_)
  refine sr_lconst (x := 1) (pc' := 6) dX7_reached_5 rfl (by decide) rfl ?_
  refine sr_aload_n (i := 0) (pc' := 7) dX7_reached_6 rfl rfl rfl ?_
  refine sr_callV0_I (pc' := 10) (way_begin_sp μ1) dX7_reached_7 rfl mg_X7_begin mi_X7_begin (Or.inl ⟨7, _, TX7, 4, s88_51, rfl⟩) ⟨Nat.le_of_ble_eq_true rfl, Nat.le_of_ble_eq_true rfl⟩ w_41 (Nat.le_of_ble_eq_true rfl) (fun u2 hu2 hcu2 hzu2 => ?_)
  refine sr_lshl (pc' := 11) dX7_reached_10 rfl ?_
  refine sr_bndL (fun v3 hv3 => ?_)
  refine sr_lstore_n (i := 2) (lv' := [some (vR 51), some (vI x1), some (vL v3), none, none, none, none, none]) (pc' := 12) dX7_reached_11 rfl rfl (by decide) rfl ?_
  refine sr_lconst (x := 0) (pc' := 13) dX7_reached_12 rfl (by decide) rfl ?_
  refine sr_lstore (lv' := [some (vR 51), some (vI x1), some (vL v3), none, some (vL 0), none, none, none]) (pc' := 15) dX7_reached_13 rfl (by decide) rfl ?_
  refine sr_iconst (pc' := 16) dX7_reached_15 rfl (by decide) ?_
  refine sr_istore (lv' := [some (vR 51), some (vI x1), some (vL v3), none, some (vL 0), none, some (vI 0), none]) (pc' := 18) dX7_reached_16 rfl (by decide) rfl ?_
  refine sr_fgt (fgt_s (fgt_n (fgt_s (fgt_s (fgt_s (fgt_s (fgt_s (fgt_s fgt_nil)))))))) ?_
  exact way_reached_18_s BIG v3 0 0 μ1
def ww_can   (x1 : Int) (μ : Mem) : Option (Int × Mem) := (roa_hasCart 1 μ x1).bind fun u1 => if u1 = 0 then (some ((-1), μ)) else ((way_reached x1 μ).bind fun u2 => some (u2.1, u2.2))
theorem ww_can_sp {l : Launch} {G : Nv}   (x1 : Int) (μ : Mem) : SP l G S88 mX8_can [vR 0, vI x1] μ (ww_can x1 μ) jIM := by
  refine sp_go (lv := [some (vR 0), some (vI x1)]) pn_X8 (Nat.le_of_ble_eq_true rfl) rfl ?_
  unfold ww_can
  refine sr_aload_n (i := 0) (pc' := 1) dX8_can_0 rfl rfl rfl ?_
  refine sr_getR (k := 0) (b := 1) (pc' := 4) cls_X8 dX8_can_1 rfl s88_0 rfl (by decide) w_19 ?_
  refine sr_iload_n (i := 1) (pc' := 5) dX8_can_4 rfl rfl rfl ?_
  refine sr_callVN1_I (pc' := 8) (roa_hasCart_sp isRoad_1 x1 μ) dX8_can_5 rfl mg_X4_hasCart mi_X4_hasCart (Or.inl ⟨4, _, TX4, 12, isRoad_1.1, rfl⟩) ⟨Nat.le_of_ble_eq_true rfl, Nat.le_of_ble_eq_true rfl⟩ w_42 (Nat.le_of_ble_eq_true rfl) (fun u1 hu1 hcu1 hzu1 => ?_)
  refine sr_if_eq (pc' := 11) (tgt := 22) dX8_can_8 rfl rfl (fun c8 => ?_) (fun c8 => ?_)
  · refine sr_iconst (pc' := 23) dX8_can_22 rfl (by decide) ?_
    exact sr_iretI dX8_can_23 rfl rfl
  · refine sr_aload_n (i := 0) (pc' := 12) dX8_can_11 rfl rfl rfl ?_
    refine sr_getR (k := 7) (b := 51) (pc' := 15) cls_X8 dX8_can_12 rfl s88_0 rfl (by decide) w_43 ?_
    refine sr_iload_n (i := 1) (pc' := 16) dX8_can_15 rfl rfl rfl ?_
    refine sr_callVN1_IM (pc' := 19) (way_reached_sp x1 μ) dX8_can_16 rfl mg_X7_reached mi_X7_reached (Or.inl ⟨7, _, TX7, 4, s88_51, rfl⟩) ⟨Nat.le_of_ble_eq_true rfl, Nat.le_of_ble_eq_true rfl⟩ w_44 (Nat.le_of_ble_eq_true rfl) (fun u2 hu2 hcu2 hzu2 => ?_)
    refine sr_goto (pc' := 23) dX8_can_19 rfl ?_
    exact sr_iretI dX8_can_23 rfl rfl
def ww_cart (μ : Mem)  (x1 x2 : Int) : Option (Int) := (roa_hasCart 1 μ x1).bind fun u1 => if u1 = 0 then (some (-1)) else (if x2 < 0 then (some (-1)) else (if 6 < x2 then (some (-1)) else ((roa_part 1 μ x1 x2).bind fun u2 => some u2)))
theorem ww_cart_sp {l : Launch} {G : Nv}   (x1 x2 : Int) (μ : Mem) : SP l G S88 mX8_cart [vR 0, vI x1, vI x2] μ (ww_cart μ x1 x2) (jI μ) := by
  refine sp_go (lv := [some (vR 0), some (vI x1), some (vI x2)]) pn_X8 (Nat.le_of_ble_eq_true rfl) rfl ?_
  unfold ww_cart
  refine sr_aload_n (i := 0) (pc' := 1) dX8_cart_0 rfl rfl rfl ?_
  refine sr_getR (k := 0) (b := 1) (pc' := 4) cls_X8 dX8_cart_1 rfl s88_0 rfl (by decide) w_19 ?_
  refine sr_iload_n (i := 1) (pc' := 5) dX8_cart_4 rfl rfl rfl ?_
  refine sr_callVN1_I (pc' := 8) (roa_hasCart_sp isRoad_1 x1 μ) dX8_cart_5 rfl mg_X4_hasCart mi_X4_hasCart (Or.inl ⟨4, _, TX4, 12, isRoad_1.1, rfl⟩) ⟨Nat.le_of_ble_eq_true rfl, Nat.le_of_ble_eq_true rfl⟩ w_42 (Nat.le_of_ble_eq_true rfl) (fun u1 hu1 hcu1 hzu1 => ?_)
  refine sr_if_eq (pc' := 11) (tgt := 33) dX8_cart_8 rfl rfl (fun c8 => ?_) (fun c8 => ?_)
  · refine sr_iconst (pc' := 34) dX8_cart_33 rfl (by decide) ?_
    exact sr_iretI dX8_cart_34 rfl rfl
  · refine sr_iload_n (i := 2) (pc' := 12) dX8_cart_11 rfl rfl rfl ?_
    refine sr_if_lt (pc' := 15) (tgt := 33) dX8_cart_12 rfl rfl (fun c12 => ?_) (fun c12 => ?_)
    · refine sr_iconst (pc' := 34) dX8_cart_33 rfl (by decide) ?_
      exact sr_iretI dX8_cart_34 rfl rfl
    · refine sr_iload_n (i := 2) (pc' := 16) dX8_cart_15 rfl rfl rfl ?_
      refine sr_bipush (pc' := 18) dX8_cart_16 rfl (by decide) (by decide) ?_
      refine sr_icmp_gt (pc' := 21) (tgt := 33) dX8_cart_18 rfl rfl (fun c18 => ?_) (fun c18 => ?_)
      · refine sr_iconst (pc' := 34) dX8_cart_33 rfl (by decide) ?_
        exact sr_iretI dX8_cart_34 rfl rfl
      · refine sr_aload_n (i := 0) (pc' := 22) dX8_cart_21 rfl rfl rfl ?_
        refine sr_getR (k := 0) (b := 1) (pc' := 25) cls_X8 dX8_cart_22 rfl s88_0 rfl (by decide) w_19 ?_
        refine sr_iload_n (i := 1) (pc' := 26) dX8_cart_25 rfl rfl rfl ?_
        refine sr_iload_n (i := 2) (pc' := 27) dX8_cart_26 rfl rfl rfl ?_
        refine sr_callVN2_I (pc' := 30) (roa_part_sp isRoad_1 x1 x2 μ) dX8_cart_27 rfl mg_X4_part mi_X4_part (Or.inl ⟨4, _, TX4, 12, isRoad_1.1, rfl⟩) ⟨Nat.le_of_ble_eq_true rfl, Nat.le_of_ble_eq_true rfl⟩ w_45 (Nat.le_of_ble_eq_true rfl) (fun u2 hu2 hcu2 hzu2 => ?_)
        refine sr_goto (pc' := 34) dX8_cart_30 rfl ?_
        exact sr_iretI dX8_cart_34 rfl rfl
def ww_isPeoples (μ : Mem)  (x0 : Int) : Option (Int) := if x0 < 1 then (some 0) else (if 7 < x0 then (some 0) else (some 1))
theorem ww_isPeoples_sp {l : Launch} {G : Nv} {Sh : Shp}   (x0 : Int) (μ : Mem) : SP l G Sh mX8_isPeoples [vI x0] μ (ww_isPeoples μ x0) (jI μ) := by
  refine sp_go (lv := [some (vI x0)]) pn_X8 (Nat.le_of_ble_eq_true rfl) rfl ?_
  unfold ww_isPeoples
  refine sr_iload_n (i := 0) (pc' := 1) dX8_isPeoples_0 rfl rfl rfl ?_
  refine sr_iconst (pc' := 2) dX8_isPeoples_1 rfl (by decide) ?_
  refine sr_icmp_lt (pc' := 5) (tgt := 15) dX8_isPeoples_2 rfl rfl (fun c2 => ?_) (fun c2 => ?_)
  · refine sr_iconst (pc' := 16) dX8_isPeoples_15 rfl (by decide) ?_
    exact sr_iretZ dX8_isPeoples_16 rfl (Or.inl rfl) rfl
  · refine sr_iload_n (i := 0) (pc' := 6) dX8_isPeoples_5 rfl rfl rfl ?_
    refine sr_bipush (pc' := 8) dX8_isPeoples_6 rfl (by decide) (by decide) ?_
    refine sr_icmp_gt (pc' := 11) (tgt := 15) dX8_isPeoples_8 rfl rfl (fun c8 => ?_) (fun c8 => ?_)
    · refine sr_iconst (pc' := 16) dX8_isPeoples_15 rfl (by decide) ?_
      exact sr_iretZ dX8_isPeoples_16 rfl (Or.inl rfl) rfl
    · refine sr_iconst (pc' := 12) dX8_isPeoples_11 rfl (by decide) ?_
      refine sr_goto (pc' := 16) dX8_isPeoples_12 rfl ?_
      exact sr_iretZ dX8_isPeoples_16 rfl (Or.inr rfl) rfl
def ww_cost (μ : Mem)  (x1 : Int) : Option (Int) := (ww_isPeoples μ x1).bind fun u1 => if u1 = 0 then (some (-1)) else ((ww_at 7 8 μ x1).bind fun u2 => some u2)
theorem ww_cost_sp {l : Launch} {G : Nv}   (x1 : Int) (μ : Mem) : SP l G S88 mX8_cost [vR 0, vI x1] μ (ww_cost μ x1) (jI μ) := by
  refine sp_go (lv := [some (vR 0), some (vI x1)]) pn_X8 (Nat.le_of_ble_eq_true rfl) rfl ?_
  unfold ww_cost
  refine sr_iload_n (i := 1) (pc' := 1) dX8_cost_0 rfl rfl rfl ?_
  refine sr_callS1_I (pc' := 4) (ww_isPeoples_sp x1 μ) dX8_cost_1 rfl mg_X8_isPeoples ms_X8_isPeoples ⟨Nat.le_of_ble_eq_true rfl, Nat.le_of_ble_eq_true rfl⟩ w_46 (Nat.le_of_ble_eq_true rfl) (fun u1 hu1 hcu1 hzu1 => ?_)
  refine sr_if_eq (pc' := 7) (tgt := 21) dX8_cost_4 rfl rfl (fun c4 => ?_) (fun c4 => ?_)
  · refine sr_iconst (pc' := 22) dX8_cost_21 rfl (by decide) ?_
    exact sr_iretI dX8_cost_22 rfl rfl
  · refine sr_aload_n (i := 0) (pc' := 8) dX8_cost_7 rfl rfl rfl ?_
    refine sr_getR (k := 0) (b := 1) (pc' := 11) cls_X8 dX8_cost_8 rfl s88_0 rfl (by decide) w_19 ?_
    refine sr_getR (k := 5) (b := 7) (pc' := 14) cls_X4 dX8_cost_11 rfl isRoad_1.1 rfl (by decide) w_47 ?_
    refine sr_iload_n (i := 1) (pc' := 15) dX8_cost_14 rfl rfl rfl ?_
    refine sr_callS2_I (pc' := 18) (ww_at_sp isRoad_1.2.2.2.2.2.2.1 (by decide) x1 μ) dX8_cost_15 rfl mg_X8_at ms_X8_at ⟨Nat.le_of_ble_eq_true rfl, Nat.le_of_ble_eq_true rfl⟩ w_48 (Nat.le_of_ble_eq_true rfl) (fun u2 hu2 hcu2 hzu2 => ?_)
    refine sr_goto (pc' := 22) dX8_cost_18 rfl ?_
    exact sr_iretI dX8_cost_22 rfl rfl
def jin_bitCount (μ : Mem)  (x0 : Int) : Option (Int) := bnd (wI (x0 - (iAnd (iUshr x0 1) 1431655765))) fun v1 => bnd (wI ((iAnd v1 858993459) + (iAnd (iUshr v1 2) 858993459))) fun v2 => bnd (iAnd (wI (v2 + (iUshr v2 4))) 252645135) fun v3 => bnd (wI (v3 + (iUshr v3 8))) fun v4 => bnd (wI (v4 + (iUshr v4 16))) fun v5 => some (iAnd v5 63)
theorem jin_bitCount_sp {l : Launch} {G : Nv} {Sh : Shp}   (x0 : Int) (μ : Mem) : SP l G Sh mJ6_bitCount_0f7a4 [vI x0] μ (jin_bitCount μ x0) (jI μ) := by
  refine sp_go (lv := [some (vI x0)]) pn_J6 (Nat.le_of_ble_eq_true rfl) rfl ?_
  unfold jin_bitCount
  refine sr_iload_n (i := 0) (pc' := 1) dJ6_bitCount_0f7a4_0 rfl rfl rfl ?_
  refine sr_iload_n (i := 0) (pc' := 2) dJ6_bitCount_0f7a4_1 rfl rfl rfl ?_
  refine sr_iconst (pc' := 3) dJ6_bitCount_0f7a4_2 rfl (by decide) ?_
  refine sr_iushr (pc' := 4) dJ6_bitCount_0f7a4_3 rfl ?_
  refine sr_ldcw (x := 1431655765) (pc' := 7) dJ6_bitCount_0f7a4_4 rfl (by decide) w_49 ?_
  refine sr_iand (pc' := 8) dJ6_bitCount_0f7a4_7 rfl ?_
  refine sr_isub (pc' := 9) dJ6_bitCount_0f7a4_8 rfl ?_
  refine sr_bnd (fun v1 hv1 => ?_)
  refine sr_istore_n (i := 0) (lv' := [some (vI v1)]) (pc' := 10) dJ6_bitCount_0f7a4_9 rfl rfl (by decide) rfl ?_
  refine sr_iload_n (i := 0) (pc' := 11) dJ6_bitCount_0f7a4_10 rfl rfl rfl ?_
  refine sr_ldcw (x := 858993459) (pc' := 14) dJ6_bitCount_0f7a4_11 rfl (by decide) w_50 ?_
  refine sr_iand (pc' := 15) dJ6_bitCount_0f7a4_14 rfl ?_
  refine sr_iload_n (i := 0) (pc' := 16) dJ6_bitCount_0f7a4_15 rfl rfl rfl ?_
  refine sr_iconst (pc' := 17) dJ6_bitCount_0f7a4_16 rfl (by decide) ?_
  refine sr_iushr (pc' := 18) dJ6_bitCount_0f7a4_17 rfl ?_
  refine sr_ldcw (x := 858993459) (pc' := 21) dJ6_bitCount_0f7a4_18 rfl (by decide) w_50 ?_
  refine sr_iand (pc' := 22) dJ6_bitCount_0f7a4_21 rfl ?_
  refine sr_iadd (pc' := 23) dJ6_bitCount_0f7a4_22 rfl ?_
  refine sr_bnd (fun v2 hv2 => ?_)
  refine sr_istore_n (i := 0) (lv' := [some (vI v2)]) (pc' := 24) dJ6_bitCount_0f7a4_23 rfl rfl (by decide) rfl ?_
  refine sr_iload_n (i := 0) (pc' := 25) dJ6_bitCount_0f7a4_24 rfl rfl rfl ?_
  refine sr_iload_n (i := 0) (pc' := 26) dJ6_bitCount_0f7a4_25 rfl rfl rfl ?_
  refine sr_iconst (pc' := 27) dJ6_bitCount_0f7a4_26 rfl (by decide) ?_
  refine sr_iushr (pc' := 28) dJ6_bitCount_0f7a4_27 rfl ?_
  refine sr_iadd (pc' := 29) dJ6_bitCount_0f7a4_28 rfl ?_
  refine sr_ldcw (x := 252645135) (pc' := 32) dJ6_bitCount_0f7a4_29 rfl (by decide) w_51 ?_
  refine sr_iand (pc' := 33) dJ6_bitCount_0f7a4_32 rfl ?_
  refine sr_bnd (fun v3 hv3 => ?_)
  refine sr_istore_n (i := 0) (lv' := [some (vI v3)]) (pc' := 34) dJ6_bitCount_0f7a4_33 rfl rfl (by decide) rfl ?_
  refine sr_iload_n (i := 0) (pc' := 35) dJ6_bitCount_0f7a4_34 rfl rfl rfl ?_
  refine sr_iload_n (i := 0) (pc' := 36) dJ6_bitCount_0f7a4_35 rfl rfl rfl ?_
  refine sr_bipush (pc' := 38) dJ6_bitCount_0f7a4_36 rfl (by decide) (by decide) ?_
  refine sr_iushr (pc' := 39) dJ6_bitCount_0f7a4_38 rfl ?_
  refine sr_iadd (pc' := 40) dJ6_bitCount_0f7a4_39 rfl ?_
  refine sr_bnd (fun v4 hv4 => ?_)
  refine sr_istore_n (i := 0) (lv' := [some (vI v4)]) (pc' := 41) dJ6_bitCount_0f7a4_40 rfl rfl (by decide) rfl ?_
  refine sr_iload_n (i := 0) (pc' := 42) dJ6_bitCount_0f7a4_41 rfl rfl rfl ?_
  refine sr_iload_n (i := 0) (pc' := 43) dJ6_bitCount_0f7a4_42 rfl rfl rfl ?_
  refine sr_bipush (pc' := 45) dJ6_bitCount_0f7a4_43 rfl (by decide) (by decide) ?_
  refine sr_iushr (pc' := 46) dJ6_bitCount_0f7a4_45 rfl ?_
  refine sr_iadd (pc' := 47) dJ6_bitCount_0f7a4_46 rfl ?_
  refine sr_bnd (fun v5 hv5 => ?_)
  refine sr_istore_n (i := 0) (lv' := [some (vI v5)]) (pc' := 48) dJ6_bitCount_0f7a4_47 rfl rfl (by decide) rfl ?_
  refine sr_iload_n (i := 0) (pc' := 49) dJ6_bitCount_0f7a4_48 rfl rfl rfl ?_
  refine sr_bipush (pc' := 51) dJ6_bitCount_0f7a4_49 rfl (by decide) (by decide) ?_
  refine sr_iand (pc' := 52) dJ6_bitCount_0f7a4_51 rfl ?_
  exact sr_iretI dJ6_bitCount_0f7a4_52 rfl rfl
def she_cellsOf (μ : Mem)  (x1 : Int) : Option (Int) := if x1 < 0 then (some (-4)) else (if 4 ≤ x1 then (some (-4)) else ((ld μ 60 4 x1).bind fun v1 => some v1))
theorem she_cellsOf_sp {l : Launch} {G : Nv}   (x1 : Int) (μ : Mem) : SP l G S88 mX6_cellsOf [vR 57, vI x1] μ (she_cellsOf μ x1) (jI μ) := by
  refine sp_go (lv := [some (vR 57), some (vI x1)]) pn_X6 (Nat.le_of_ble_eq_true rfl) rfl ?_
  unfold she_cellsOf
  refine sr_iload_n (i := 1) (pc' := 1) dX6_cellsOf_0 rfl rfl rfl ?_
  refine sr_if_lt (pc' := 4) (tgt := 22) dX6_cellsOf_1 rfl rfl (fun c1 => ?_) (fun c1 => ?_)
  · refine sr_bipush (pc' := 24) dX6_cellsOf_22 rfl (by decide) (by decide) ?_
    exact sr_iretI dX6_cellsOf_24 rfl rfl
  · refine sr_iload_n (i := 1) (pc' := 5) dX6_cellsOf_4 rfl rfl rfl ?_
    refine sr_aload_n (i := 0) (pc' := 6) dX6_cellsOf_5 rfl rfl rfl ?_
    refine sr_getR (k := 2) (b := 60) (pc' := 9) cls_X6 dX6_cellsOf_6 rfl s88_57 rfl (by decide) w_52 ?_
    refine sr_alen0 (pc' := 10) dX6_cellsOf_9 rfl s88_60 (by decide) ?_
    refine sr_icmp_ge (pc' := 13) (tgt := 22) dX6_cellsOf_10 rfl rfl (fun c10 => ?_) (fun c10 => ?_)
    · refine sr_bipush (pc' := 24) dX6_cellsOf_22 rfl (by decide) (by decide) ?_
      exact sr_iretI dX6_cellsOf_24 rfl rfl
    · refine sr_aload_n (i := 0) (pc' := 14) dX6_cellsOf_13 rfl rfl rfl ?_
      refine sr_getR (k := 2) (b := 60) (pc' := 17) cls_X6 dX6_cellsOf_14 rfl s88_57 rfl (by decide) w_52 ?_
      refine sr_iload_n (i := 1) (pc' := 18) dX6_cellsOf_17 rfl rfl rfl ?_
      refine sr_iald (pc' := 19) dX6_cellsOf_18 rfl s88_60 (by decide) (fun v1 hv1 hv1a hv1b => ?_)
      refine sr_goto (pc' := 24) dX6_cellsOf_19 rfl ?_
      exact sr_iretI dX6_cellsOf_24 rfl rfl
def ww_count (μ : Mem)  (x1 : Int) : Option (Int) := if x1 = 0 then (some (μ 1 9)) else if x1 = 1 then (some (μ 1 10)) else if x1 = 2 then (some (μ 1 11)) else if x1 = 3 then ((jin_bitCount μ (μ 0 10)).bind fun u1 => some u1) else if x1 = 4 then (some (μ 25 1)) else if x1 = 5 then ((she_cellsOf μ 0).bind fun u2 => some u2) else (some (-1))
theorem ww_count_sp {l : Launch} {G : Nv}   (x1 : Int) (μ : Mem) : SP l G S88 mX8_count [vR 0, vI x1] μ (ww_count μ x1) (jI μ) := by
  refine sp_go (lv := [some (vR 0), some (vI x1)]) pn_X8 (Nat.le_of_ble_eq_true rfl) rfl ?_
  unfold ww_count
  refine sr_iload_n (i := 1) (pc' := 1) dX8_count_0 rfl rfl rfl ?_
  refine sr_ite (fun c1_0 => ?_) (fun c1_0 => ?_)
  · refine sr_swIn (j := 0) (tgt := 40) dX8_count_1 (by omega) (by omega) rfl rfl ?_
    refine sr_aload_n (i := 0) (pc' := 41) dX8_count_40 rfl rfl rfl ?_
    refine sr_getR (k := 0) (b := 1) (pc' := 44) cls_X8 dX8_count_41 rfl s88_0 rfl (by decide) w_19 ?_
    refine sr_getI (k := 9) (pc' := 47) cls_X4 dX8_count_44 rfl isRoad_1.1 rfl (by decide) w_53 ?_
    exact sr_iretI dX8_count_47 rfl rfl
  refine sr_ite (fun c1_1 => ?_) (fun c1_1 => ?_)
  · refine sr_swIn (j := 1) (tgt := 48) dX8_count_1 (by omega) (by omega) rfl rfl ?_
    refine sr_aload_n (i := 0) (pc' := 49) dX8_count_48 rfl rfl rfl ?_
    refine sr_getR (k := 0) (b := 1) (pc' := 52) cls_X8 dX8_count_49 rfl s88_0 rfl (by decide) w_19 ?_
    refine sr_getI (k := 10) (pc' := 55) cls_X4 dX8_count_52 rfl isRoad_1.1 rfl (by decide) w_24 ?_
    exact sr_iretI dX8_count_55 rfl rfl
  refine sr_ite (fun c1_2 => ?_) (fun c1_2 => ?_)
  · refine sr_swIn (j := 2) (tgt := 56) dX8_count_1 (by omega) (by omega) rfl rfl ?_
    refine sr_aload_n (i := 0) (pc' := 57) dX8_count_56 rfl rfl rfl ?_
    refine sr_getR (k := 0) (b := 1) (pc' := 60) cls_X8 dX8_count_57 rfl s88_0 rfl (by decide) w_19 ?_
    refine sr_getI (k := 11) (pc' := 63) cls_X4 dX8_count_60 rfl isRoad_1.1 rfl (by decide) w_54 ?_
    exact sr_iretI dX8_count_63 rfl rfl
  refine sr_ite (fun c1_3 => ?_) (fun c1_3 => ?_)
  · refine sr_swIn (j := 3) (tgt := 64) dX8_count_1 (by omega) (by omega) rfl rfl ?_
    refine sr_aload_n (i := 0) (pc' := 65) dX8_count_64 rfl rfl rfl ?_
    refine sr_getI (k := 10) (pc' := 68) cls_X8 dX8_count_65 rfl s88_0 rfl (by decide) w_18 ?_
    refine sr_callS1_I (pc' := 71) (jin_bitCount_sp (μ 0 10) μ) dX8_count_68 rfl mg_J6_bitCount_0f7a4 ms_J6_bitCount_0f7a4 ⟨Nat.le_of_ble_eq_true rfl, Nat.le_of_ble_eq_true rfl⟩ w_55 (Nat.le_of_ble_eq_true rfl) (fun u1 hu1 hcu1 hzu1 => ?_)
    exact sr_iretI dX8_count_71 rfl rfl
  refine sr_ite (fun c1_4 => ?_) (fun c1_4 => ?_)
  · refine sr_swIn (j := 4) (tgt := 72) dX8_count_1 (by omega) (by omega) rfl rfl ?_
    refine sr_aload_n (i := 0) (pc' := 73) dX8_count_72 rfl rfl rfl ?_
    refine sr_getR (k := 3) (b := 25) (pc' := 76) cls_X8 dX8_count_73 rfl s88_0 rfl (by decide) w_56 ?_
    refine sr_getIN (k := 1) (pc' := 79) cls_X3 dX8_count_76 rfl s88_25 rfl (by decide) w_57 ?_
    exact sr_iretI dX8_count_79 rfl rfl
  refine sr_ite (fun c1_5 => ?_) (fun c1_5 => ?_)
  · refine sr_swIn (j := 5) (tgt := 80) dX8_count_1 (by omega) (by omega) rfl rfl ?_
    refine sr_aload_n (i := 0) (pc' := 81) dX8_count_80 rfl rfl rfl ?_
    refine sr_getR (k := 9) (b := 57) (pc' := 84) cls_X8 dX8_count_81 rfl s88_0 rfl (by decide) w_58 ?_
    refine sr_iconst (pc' := 85) dX8_count_84 rfl (by decide) ?_
    refine sr_callVN1_I (pc' := 88) (she_cellsOf_sp 0 μ) dX8_count_85 rfl mg_X6_cellsOf mi_X6_cellsOf (Or.inl ⟨6, _, TX6, 4, s88_57, rfl⟩) ⟨Nat.le_of_ble_eq_true rfl, Nat.le_of_ble_eq_true rfl⟩ w_59 (Nat.le_of_ble_eq_true rfl) (fun u2 hu2 hcu2 hzu2 => ?_)
    exact sr_iretI dX8_count_88 rfl rfl
  refine sr_swOut (tgt := 89) [0, 1, 2, 3, 4, 5] dX8_count_1 (by simp only [List.forall_mem_cons, List.not_mem_nil, false_implies, implies_true, and_true]; omega) (by decide) rfl ?_
  refine sr_iconst (pc' := 90) dX8_count_89 rfl (by decide) ?_
  exact sr_iretI dX8_count_90 rfl rfl
def ww_isBehind (μ : Mem)  (x0 : Int) : Option (Int) := if x0 < 0 then (some 0) else (if 60 < x0 then (some 0) else (some 1))
theorem ww_isBehind_sp {l : Launch} {G : Nv} {Sh : Shp}   (x0 : Int) (μ : Mem) : SP l G Sh mX8_isBehind [vI x0] μ (ww_isBehind μ x0) (jI μ) := by
  refine sp_go (lv := [some (vI x0)]) pn_X8 (Nat.le_of_ble_eq_true rfl) rfl ?_
  unfold ww_isBehind
  refine sr_iload_n (i := 0) (pc' := 1) dX8_isBehind_0 rfl rfl rfl ?_
  refine sr_if_lt (pc' := 4) (tgt := 14) dX8_isBehind_1 rfl rfl (fun c1 => ?_) (fun c1 => ?_)
  · refine sr_iconst (pc' := 15) dX8_isBehind_14 rfl (by decide) ?_
    exact sr_iretZ dX8_isBehind_15 rfl (Or.inl rfl) rfl
  · refine sr_iload_n (i := 0) (pc' := 5) dX8_isBehind_4 rfl rfl rfl ?_
    refine sr_bipush (pc' := 7) dX8_isBehind_5 rfl (by decide) (by decide) ?_
    refine sr_icmp_gt (pc' := 10) (tgt := 14) dX8_isBehind_7 rfl rfl (fun c7 => ?_) (fun c7 => ?_)
    · refine sr_iconst (pc' := 15) dX8_isBehind_14 rfl (by decide) ?_
      exact sr_iretZ dX8_isBehind_15 rfl (Or.inl rfl) rfl
    · refine sr_iconst (pc' := 11) dX8_isBehind_10 rfl (by decide) ?_
      refine sr_goto (pc' := 15) dX8_isBehind_11 rfl ?_
      exact sr_iretZ dX8_isBehind_15 rfl (Or.inr rfl) rfl
def ord_begin_11 (o : Nat)  : Nat → Int → Mem → Option (Mem)
  | 0, _, _ => none
  | n + 1, x2, μ => if 5 ≤ x2 then (some μ) else ((stx μ (o + 1) 5 x2 x2).bind fun μ1 => ord_begin_11 o n (wI (x2 + 1)) μ1)
theorem ord_begin_11_s {l : Launch} {G : Nv} {Sh : Shp} {o : Nat} (ho : IsOrder Sh o)   : ∀ (n : Nat) (x2 : Int) (μ : Mem), SR l G Sh mX1_begin (ord_begin_11 o n x2 μ) jM 11 [some (vR o), none, some (vI x2)] [] μ := by
  intro n
  induction n with
  | zero => intro x2 μ; exact sr_none
  | succ n ih =>
    intro x2 μ
    rw [ord_begin_11.eq_2]
    refine sr_iload_n (i := 2) (pc' := 12) dX1_begin_11 rfl rfl rfl ?_
    refine sr_aload_n (i := 0) (pc' := 13) dX1_begin_12 rfl rfl rfl ?_
    refine sr_getR (k := 0) (b := (o + 1)) (pc' := 16) cls_X1 dX1_begin_13 rfl ho.1 rfl (by decide) w_60 ?_
    refine sr_alen0 (pc' := 17) dX1_begin_16 rfl ho.2 (by decide) ?_
    refine sr_icmp_ge (pc' := 20) (tgt := 33) dX1_begin_17 rfl rfl (fun c17 => ?_) (fun c17 => ?_)
    · exact sr_ret dX1_begin_33 rfl rfl
    · refine sr_aload_n (i := 0) (pc' := 21) dX1_begin_20 rfl rfl rfl ?_
      refine sr_getR (k := 0) (b := (o + 1)) (pc' := 24) cls_X1 dX1_begin_21 rfl ho.1 rfl (by decide) w_60 ?_
      refine sr_iload_n (i := 2) (pc' := 25) dX1_begin_24 rfl rfl rfl ?_
      refine sr_iload_n (i := 2) (pc' := 26) dX1_begin_25 rfl rfl rfl ?_
      refine sr_iast (pc' := 27) dX1_begin_26 rfl ho.2 (by decide) (fun μ1 hμ1 hμ1a hμ1b => ?_)
      refine sr_iinc (lv' := [some (vR o), none, some (vI (wI (x2 + 1)))]) (pc' := 30) dX1_begin_27 rfl (by decide) rfl rfl ?_
      refine sr_goto (pc' := 11) dX1_begin_30 rfl ?_
      exact ih (wI (x2 + 1)) μ1
def ord_begin (o : Nat)  (x1 : Int) (μ : Mem) : Option (Mem) := bnd (mset μ o 1 (iMin x1 5)) fun μ1 => ord_begin_11 o BIG 0 μ1
theorem ord_begin_sp {l : Launch} {G : Nv} {Sh : Shp} {o : Nat} (ho : IsOrder Sh o) (x1 : Int) (μ : Mem) : SP l G Sh mX1_begin [vR o, vI x1] μ (ord_begin o x1 μ) jM := by
  refine sp_go (lv := [some (vR o), some (vI x1), none]) pn_X1 (Nat.le_of_ble_eq_true rfl) rfl ?_
  unfold ord_begin
  refine sr_aload_n (i := 0) (pc' := 1) dX1_begin_0 rfl rfl rfl ?_
  refine sr_iload_n (i := 1) (pc' := 2) dX1_begin_1 rfl rfl rfl ?_
  refine sr_iconst (pc' := 3) dX1_begin_2 rfl (by decide) ?_
  refine sr_mmin (pc' := 6) dX1_begin_3 rfl w_61 (Nat.le_of_ble_eq_true rfl) (Nat.le_of_ble_eq_true rfl) (Nat.le_of_ble_eq_true rfl) ?_
  refine sr_putI (k := 1) (pc' := 9) cls_X1 dX1_begin_6 rfl ho.1 rfl (by decide) w_62 rfl rfl (fun μ1 hμ1 => ?_)
  refine sr_iconst (pc' := 10) dX1_begin_9 rfl (by decide) ?_
  refine sr_istore_n (i := 2) (lv' := [some (vR o), some (vI x1), some (vI 0)]) (pc' := 11) dX1_begin_10 rfl rfl (by decide) rfl ?_
  refine sr_fgt (fgt_s (fgt_n (fgt_s fgt_nil))) ?_
  exact ord_begin_11_s ho BIG 0 μ1
def ord_copyOf (o : Nat) (o1 : Nat)  (μ : Mem) : Option (Mem) := bnd (mset μ o 1 (μ o1 1)) fun μ1 => (ww_copy (o1 + 1) 5 (o + 1) 5 μ1).bind fun μ2 => some μ2
theorem ord_copyOf_sp {l : Launch} {G : Nv} {Sh : Shp} {o : Nat} {o1 : Nat} (ho : IsOrder Sh o) (ho1 : IsOrder Sh o1) (μ : Mem) : SP l G Sh mX1_copyOf [vR o, vR o1] μ (ord_copyOf o o1 μ) jM := by
  refine sp_go (lv := [some (vR o), some (vR o1)]) pn_X1 (Nat.le_of_ble_eq_true rfl) rfl ?_
  unfold ord_copyOf
  refine sr_aload_n (i := 0) (pc' := 1) dX1_copyOf_0 rfl rfl rfl ?_
  refine sr_aload_n (i := 1) (pc' := 2) dX1_copyOf_1 rfl rfl rfl ?_
  refine sr_getI (k := 1) (pc' := 5) cls_X1 dX1_copyOf_2 rfl ho1.1 rfl (by decide) w_62 ?_
  refine sr_putI (k := 1) (pc' := 8) cls_X1 dX1_copyOf_5 rfl ho.1 rfl (by decide) w_62 rfl rfl (fun μ1 hμ1 => ?_)
  refine sr_aload_n (i := 1) (pc' := 9) dX1_copyOf_8 rfl rfl rfl ?_
  refine sr_getR (k := 0) (b := (o1 + 1)) (pc' := 12) cls_X1 dX1_copyOf_9 rfl ho1.1 rfl (by decide) w_60 ?_
  refine sr_aload_n (i := 0) (pc' := 13) dX1_copyOf_12 rfl rfl rfl ?_
  refine sr_getR (k := 0) (b := (o + 1)) (pc' := 16) cls_X1 dX1_copyOf_13 rfl ho.1 rfl (by decide) w_60 ?_
  refine sr_callSN2_M (pc' := 19) (ww_copy_sp ho1.2 (by decide) ho.2 (by decide) μ1) dX1_copyOf_16 rfl mg_X8_copy ms_X8_copy ⟨Nat.le_of_ble_eq_true rfl, Nat.le_of_ble_eq_true rfl⟩ w_63 (Nat.le_of_ble_eq_true rfl) (fun μ2 hμ2 => ?_)
  exact sr_ret dX1_copyOf_19 rfl rfl
def ww_put (a0 n0 : Nat)  (x1 x2 : Int) (μ : Mem) : Option (Mem) := if x1 < 0 then (some μ) else (if (n0 : Int) ≤ x1 then (some μ) else ((stx μ a0 n0 x1 x2).bind fun μ1 => some μ1))
theorem ww_put_sp {l : Launch} {G : Nv} {Sh : Shp} {a0 n0 : Nat} (ha0 : Sh[a0]? = some (0, n0, [])) (hn0 : n0 < 2147483648) (x1 x2 : Int) (μ : Mem) : SP l G Sh mX8_put [vR a0, vI x1, vI x2] μ (ww_put a0 n0 x1 x2 μ) jM := by
  refine sp_go (lv := [some (vR a0), some (vI x1), some (vI x2)]) pn_X8 (Nat.le_of_ble_eq_true rfl) rfl ?_
  unfold ww_put
  refine sr_iload_n (i := 1) (pc' := 1) dX8_put_0 rfl rfl rfl ?_
  refine sr_if_lt (pc' := 4) (tgt := 14) dX8_put_1 rfl rfl (fun c1 => ?_) (fun c1 => ?_)
  · exact sr_ret dX8_put_14 rfl rfl
  · refine sr_iload_n (i := 1) (pc' := 5) dX8_put_4 rfl rfl rfl ?_
    refine sr_aload_n (i := 0) (pc' := 6) dX8_put_5 rfl rfl rfl ?_
    refine sr_alen0 (pc' := 7) dX8_put_6 rfl ha0 hn0 ?_
    refine sr_icmp_ge (pc' := 10) (tgt := 14) dX8_put_7 rfl rfl (fun c7 => ?_) (fun c7 => ?_)
    · exact sr_ret dX8_put_14 rfl rfl
    · refine sr_aload_n (i := 0) (pc' := 11) dX8_put_10 rfl rfl rfl ?_
      refine sr_iload_n (i := 1) (pc' := 12) dX8_put_11 rfl rfl rfl ?_
      refine sr_iload_n (i := 2) (pc' := 13) dX8_put_12 rfl rfl rfl ?_
      refine sr_iast (pc' := 14) dX8_put_13 rfl ha0 hn0 (fun μ1 hμ1 hμ1a hμ1b => ?_)
      exact sr_ret dX8_put_14 rfl rfl
def ww_wipe_2 (a0 n0 : Nat)  : Nat → Int → Int → Mem → Option (Mem)
  | 0, _, _, _ => none
  | n + 1, x1, x2, μ => if (n0 : Int) ≤ x2 then (some μ) else ((stx μ a0 n0 x2 x1).bind fun μ1 => ww_wipe_2 a0 n0 n x1 (wI (x2 + 1)) μ1)
theorem ww_wipe_2_s {l : Launch} {G : Nv} {Sh : Shp} {a0 n0 : Nat} (ha0 : Sh[a0]? = some (0, n0, [])) (hn0 : n0 < 2147483648)   : ∀ (n : Nat) (x1 x2 : Int) (μ : Mem), SR l G Sh mX8_wipe (ww_wipe_2 a0 n0 n x1 x2 μ) jM 2 [some (vR a0), some (vI x1), some (vI x2)] [] μ := by
  intro n
  induction n with
  | zero => intro x1 x2 μ; exact sr_none
  | succ n ih =>
    intro x1 x2 μ
    rw [ww_wipe_2.eq_2]
    refine sr_iload_n (i := 2) (pc' := 3) dX8_wipe_2 rfl rfl rfl ?_
    refine sr_aload_n (i := 0) (pc' := 4) dX8_wipe_3 rfl rfl rfl ?_
    refine sr_alen0 (pc' := 5) dX8_wipe_4 rfl ha0 hn0 ?_
    refine sr_icmp_ge (pc' := 8) (tgt := 18) dX8_wipe_5 rfl rfl (fun c5 => ?_) (fun c5 => ?_)
    · exact sr_ret dX8_wipe_18 rfl rfl
    · refine sr_aload_n (i := 0) (pc' := 9) dX8_wipe_8 rfl rfl rfl ?_
      refine sr_iload_n (i := 2) (pc' := 10) dX8_wipe_9 rfl rfl rfl ?_
      refine sr_iload_n (i := 1) (pc' := 11) dX8_wipe_10 rfl rfl rfl ?_
      refine sr_iast (pc' := 12) dX8_wipe_11 rfl ha0 hn0 (fun μ1 hμ1 hμ1a hμ1b => ?_)
      refine sr_iinc (lv' := [some (vR a0), some (vI x1), some (vI (wI (x2 + 1)))]) (pc' := 15) dX8_wipe_12 rfl (by decide) rfl rfl ?_
      refine sr_goto (pc' := 2) dX8_wipe_15 rfl ?_
      exact ih x1 (wI (x2 + 1)) μ1
def ww_wipe (a0 n0 : Nat)  (x1 : Int) (μ : Mem) : Option (Mem) := ww_wipe_2 a0 n0 BIG x1 0 μ
theorem ww_wipe_sp {l : Launch} {G : Nv} {Sh : Shp} {a0 n0 : Nat} (ha0 : Sh[a0]? = some (0, n0, [])) (hn0 : n0 < 2147483648) (x1 : Int) (μ : Mem) : SP l G Sh mX8_wipe [vR a0, vI x1] μ (ww_wipe a0 n0 x1 μ) jM := by
  refine sp_go (lv := [some (vR a0), some (vI x1), none]) pn_X8 (Nat.le_of_ble_eq_true rfl) rfl ?_
  unfold ww_wipe
  refine sr_iconst (pc' := 1) dX8_wipe_0 rfl (by decide) ?_
  refine sr_istore_n (i := 2) (lv' := [some (vR a0), some (vI x1), some (vI 0)]) (pc' := 2) dX8_wipe_1 rfl rfl (by decide) rfl ?_
  exact ww_wipe_2_s ha0 hn0 BIG x1 0 μ
