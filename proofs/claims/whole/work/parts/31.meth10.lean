def mod_next_82   : Nat → Mem → Option (Mem)
  | 0, _ => none
  | n + 1, μ => (mod_look μ (μ 61 19)).bind fun u1 => (mod_in μ u1 97 122).bind fun u2 => if u2 = 0 then (some μ) else (bnd (mset μ 61 19 (wI ((μ 61 19) + 1))) fun μ3 => mod_next_82 n μ3)
theorem mod_next_82_s {l : Launch} {G : Nv}     : ∀ (n : Nat) (μ : Mem), SR l G S88 mX9_next (mod_next_82 n μ) jM 82 [some (vR 61), none] [] μ := by
  intro n
  induction n with
  | zero => intro μ; exact sr_none
  | succ n ih =>
    intro μ
    rw [mod_next_82.eq_2]
    refine sr_aload_n (i := 0) (pc' := 83) dX9_next_82 rfl rfl rfl ?_
    refine sr_aload_n (i := 0) (pc' := 84) dX9_next_83 rfl rfl rfl ?_
    refine sr_getI (k := 19) (pc' := 87) cls_X9 dX9_next_84 rfl s88_61 rfl (by decide) w_379 ?_
    refine sr_callV1_I (pc' := 90) (mod_look_sp (μ 61 19) μ) dX9_next_87 rfl mg_X9_look mi_X9_look (Or.inl ⟨9, _, TX9, 40, s88_61, rfl⟩) ⟨Nat.le_of_ble_eq_true rfl, Nat.le_of_ble_eq_true rfl⟩ w_359 (Nat.le_of_ble_eq_true rfl) (fun u1 hu1 hcu1 hzu1 => ?_)
    refine sr_i2l (pc' := 91) dX9_next_90 rfl ?_
    refine sr_ldc2 (x := 97) (pc' := 94) dX9_next_91 rfl (by decide) w_395 ?_
    refine sr_ldc2 (x := 122) (pc' := 97) dX9_next_94 rfl (by decide) w_396 ?_
    refine sr_callS3_I (pc' := 100) (mod_in_sp u1 97 122 μ) dX9_next_97 rfl mg_X9_in ms_X9_in ⟨Nat.le_of_ble_eq_true rfl, Nat.le_of_ble_eq_true rfl⟩ w_336 (Nat.le_of_ble_eq_true rfl) (fun u2 hu2 hcu2 hzu2 => ?_)
    refine sr_if_eq (pc' := 103) (tgt := 274) dX9_next_100 rfl rfl (fun c100 => ?_) (fun c100 => ?_)
    · exact sr_ret dX9_next_274 rfl rfl
    · refine sr_aload_n (i := 0) (pc' := 104) dX9_next_103 rfl rfl rfl ?_
      refine sr_dup (pc' := 105) dX9_next_104 rfl rfl ?_
      refine sr_getI (k := 19) (pc' := 108) cls_X9 dX9_next_105 rfl s88_61 rfl (by decide) w_379 ?_
      refine sr_iconst (pc' := 109) dX9_next_108 rfl (by decide) ?_
      refine sr_iadd (pc' := 110) dX9_next_109 rfl ?_
      refine sr_putI (k := 19) (pc' := 113) cls_X9 dX9_next_110 rfl s88_61 rfl (by decide) w_379 rfl rfl (fun μ3 hμ3 => ?_)
      refine sr_goto (pc' := 82) dX9_next_113 rfl ?_
      exact ih μ3
def mod_next_201  (k140 : Mem → Option (Mem)) (s1 : Int) (μ : Mem) : Option (Mem) := bnd (mset μ 61 22 s1) fun μ1 => bnd (mset μ1 61 19 (wI ((μ1 61 19) + 1))) fun μ2 => k140 μ2
theorem mod_next_201_s {l : Launch} {G : Nv}   {k140 : Mem → Option (Mem)} (hk140 : ∀ (μ : Mem) , SR l G S88 mX9_next (k140 μ) jM 140 [some (vR 61), none] [] μ) : ∀ (s1 : Int) (μ : Mem), SR l G S88 mX9_next (mod_next_201 k140 s1 μ) jM 201 [some (vR 61), none] [vI s1, vR 61] μ := by
  intro s1 μ
  unfold mod_next_201
  refine sr_putI (k := 22) (pc' := 204) cls_X9 dX9_next_201 rfl s88_61 rfl (by decide) w_391 rfl rfl (fun μ1 hμ1 => ?_)
  refine sr_aload_n (i := 0) (pc' := 205) dX9_next_204 rfl rfl rfl ?_
  refine sr_dup (pc' := 206) dX9_next_205 rfl rfl ?_
  refine sr_getI (k := 19) (pc' := 209) cls_X9 dX9_next_206 rfl s88_61 rfl (by decide) w_379 ?_
  refine sr_iconst (pc' := 210) dX9_next_209 rfl (by decide) ?_
  refine sr_iadd (pc' := 211) dX9_next_210 rfl ?_
  refine sr_putI (k := 19) (pc' := 214) cls_X9 dX9_next_211 rfl s88_61 rfl (by decide) w_379 rfl rfl (fun μ2 hμ2 => ?_)
  refine sr_goto (pc' := 140) dX9_next_214 rfl ?_
  exact hk140 μ2
def mod_next_236   (s1 : Int) (μ : Mem) : Option (Mem) := (mod_needs s1 1 μ).bind fun μ1 => some μ1
theorem mod_next_236_s {l : Launch} {G : Nv}     : ∀ (s1 : Int) (μ : Mem), SR l G S88 mX9_next (mod_next_236 s1 μ) jM 236 [none, none] [vI s1, vR 61] μ := by
  intro s1 μ
  unfold mod_next_236
  refine sr_iconst (pc' := 237) dX9_next_236 rfl (by decide) ?_
  refine sr_callV2_M (pc' := 240) (mod_needs_sp s1 1 μ) dX9_next_237 rfl mg_X9_needs mi_X9_needs (Or.inl ⟨9, _, TX9, 40, s88_61, rfl⟩) ⟨Nat.le_of_ble_eq_true rfl, Nat.le_of_ble_eq_true rfl⟩ w_390 (Nat.le_of_ble_eq_true rfl) (fun μ1 hμ1 => ?_)
  refine sr_goto (pc' := 274) dX9_next_240 rfl ?_
  exact sr_ret dX9_next_274 rfl rfl
def mod_next_140   : Nat → Mem → Option (Mem)
  | 0, _ => none
  | n + 1, μ => (mod_look μ (μ 61 19)).bind fun u1 => (mod_in μ u1 48 57).bind fun u2 => if u2 = 0 then (if 2 < (wI ((μ 61 19) - (μ 61 20))) then (mod_next_236 0 μ) else (mod_next_236 1 μ)) else (if 2 ≤ (wI ((μ 61 19) - (μ 61 20))) then (mod_next_201 (mod_next_140 n) (μ 61 22) μ) else ((mod_look μ (μ 61 19)).bind fun u3 => mod_next_201 (mod_next_140 n) (wI ((wI ((wI (10 * (μ 61 22))) + u3)) - 48)) μ))
theorem mod_next_140_s {l : Launch} {G : Nv}     : ∀ (n : Nat) (μ : Mem), SR l G S88 mX9_next (mod_next_140 n μ) jM 140 [some (vR 61), none] [] μ := by
  intro n
  induction n with
  | zero => intro μ; exact sr_none
  | succ n ih =>
    intro μ
    rw [mod_next_140.eq_2]
    refine sr_aload_n (i := 0) (pc' := 141) dX9_next_140 rfl rfl rfl ?_
    refine sr_aload_n (i := 0) (pc' := 142) dX9_next_141 rfl rfl rfl ?_
    refine sr_getI (k := 19) (pc' := 145) cls_X9 dX9_next_142 rfl s88_61 rfl (by decide) w_379 ?_
    refine sr_callV1_I (pc' := 148) (mod_look_sp (μ 61 19) μ) dX9_next_145 rfl mg_X9_look mi_X9_look (Or.inl ⟨9, _, TX9, 40, s88_61, rfl⟩) ⟨Nat.le_of_ble_eq_true rfl, Nat.le_of_ble_eq_true rfl⟩ w_359 (Nat.le_of_ble_eq_true rfl) (fun u1 hu1 hcu1 hzu1 => ?_)
    refine sr_i2l (pc' := 149) dX9_next_148 rfl ?_
    refine sr_ldc2 (x := 48) (pc' := 152) dX9_next_149 rfl (by decide) w_397 ?_
    refine sr_ldc2 (x := 57) (pc' := 155) dX9_next_152 rfl (by decide) w_398 ?_
    refine sr_callS3_I (pc' := 158) (mod_in_sp u1 48 57 μ) dX9_next_155 rfl mg_X9_in ms_X9_in ⟨Nat.le_of_ble_eq_true rfl, Nat.le_of_ble_eq_true rfl⟩ w_336 (Nat.le_of_ble_eq_true rfl) (fun u2 hu2 hcu2 hzu2 => ?_)
    refine sr_if_eq (pc' := 161) (tgt := 217) dX9_next_158 rfl rfl (fun c158 => ?_) (fun c158 => ?_)
    · refine sr_aload_n (i := 0) (pc' := 218) dX9_next_217 rfl rfl rfl ?_
      refine sr_aload_n (i := 0) (pc' := 219) dX9_next_218 rfl rfl rfl ?_
      refine sr_getI (k := 19) (pc' := 222) cls_X9 dX9_next_219 rfl s88_61 rfl (by decide) w_379 ?_
      refine sr_aload_n (i := 0) (pc' := 223) dX9_next_222 rfl rfl rfl ?_
      refine sr_getI (k := 20) (pc' := 226) cls_X9 dX9_next_223 rfl s88_61 rfl (by decide) w_358 ?_
      refine sr_isub (pc' := 227) dX9_next_226 rfl ?_
      refine sr_iconst (pc' := 228) dX9_next_227 rfl (by decide) ?_
      refine sr_icmp_gt (pc' := 231) (tgt := 235) dX9_next_228 rfl rfl (fun c228 => ?_) (fun c228 => ?_)
      · refine sr_iconst (pc' := 236) dX9_next_235 rfl (by decide) ?_
        refine sr_fgt (fgt_n (fgt_s fgt_nil)) ?_
        exact mod_next_236_s 0 μ
      · refine sr_iconst (pc' := 232) dX9_next_231 rfl (by decide) ?_
        refine sr_goto (pc' := 236) dX9_next_232 rfl ?_
        refine sr_fgt (fgt_n (fgt_s fgt_nil)) ?_
        exact mod_next_236_s 1 μ
    · refine sr_aload_n (i := 0) (pc' := 162) dX9_next_161 rfl rfl rfl ?_
      refine sr_aload_n (i := 0) (pc' := 163) dX9_next_162 rfl rfl rfl ?_
      refine sr_getI (k := 19) (pc' := 166) cls_X9 dX9_next_163 rfl s88_61 rfl (by decide) w_379 ?_
      refine sr_aload_n (i := 0) (pc' := 167) dX9_next_166 rfl rfl rfl ?_
      refine sr_getI (k := 20) (pc' := 170) cls_X9 dX9_next_167 rfl s88_61 rfl (by decide) w_358 ?_
      refine sr_isub (pc' := 171) dX9_next_170 rfl ?_
      refine sr_iconst (pc' := 172) dX9_next_171 rfl (by decide) ?_
      refine sr_icmp_ge (pc' := 175) (tgt := 197) dX9_next_172 rfl rfl (fun c172 => ?_) (fun c172 => ?_)
      · refine sr_aload_n (i := 0) (pc' := 198) dX9_next_197 rfl rfl rfl ?_
        refine sr_getI (k := 22) (pc' := 201) cls_X9 dX9_next_198 rfl s88_61 rfl (by decide) w_391 ?_
        exact mod_next_201_s ih (μ 61 22) μ
      · refine sr_bipush (pc' := 177) dX9_next_175 rfl (by decide) (by decide) ?_
        refine sr_aload_n (i := 0) (pc' := 178) dX9_next_177 rfl rfl rfl ?_
        refine sr_getI (k := 22) (pc' := 181) cls_X9 dX9_next_178 rfl s88_61 rfl (by decide) w_391 ?_
        refine sr_imul (pc' := 182) dX9_next_181 rfl ?_
        refine sr_aload_n (i := 0) (pc' := 183) dX9_next_182 rfl rfl rfl ?_
        refine sr_aload_n (i := 0) (pc' := 184) dX9_next_183 rfl rfl rfl ?_
        refine sr_getI (k := 19) (pc' := 187) cls_X9 dX9_next_184 rfl s88_61 rfl (by decide) w_379 ?_
        refine sr_callV1_I (pc' := 190) (mod_look_sp (μ 61 19) μ) dX9_next_187 rfl mg_X9_look mi_X9_look (Or.inl ⟨9, _, TX9, 40, s88_61, rfl⟩) ⟨Nat.le_of_ble_eq_true rfl, Nat.le_of_ble_eq_true rfl⟩ w_359 (Nat.le_of_ble_eq_true rfl) (fun u3 hu3 hcu3 hzu3 => ?_)
        refine sr_iadd (pc' := 191) dX9_next_190 rfl ?_
        refine sr_bipush (pc' := 193) dX9_next_191 rfl (by decide) (by decide) ?_
        refine sr_isub (pc' := 194) dX9_next_193 rfl ?_
        refine sr_goto (pc' := 201) dX9_next_194 rfl ?_
        exact mod_next_201_s ih (wI ((wI ((wI (10 * (μ 61 22))) + u3)) - 48)) μ
def mod_next_260   (s1 : Int) (μ : Mem) : Option (Mem) := (mod_needs s1 1 μ).bind fun μ1 => bnd (mset μ1 61 19 (wI ((μ1 61 19) + 1))) fun μ2 => some μ2
theorem mod_next_260_s {l : Launch} {G : Nv}     : ∀ (s1 : Int) (μ : Mem), SR l G S88 mX9_next (mod_next_260 s1 μ) jM 260 [some (vR 61), none] [vI s1, vR 61] μ := by
  intro s1 μ
  unfold mod_next_260
  refine sr_iconst (pc' := 261) dX9_next_260 rfl (by decide) ?_
  refine sr_callV2_M (pc' := 264) (mod_needs_sp s1 1 μ) dX9_next_261 rfl mg_X9_needs mi_X9_needs (Or.inl ⟨9, _, TX9, 40, s88_61, rfl⟩) ⟨Nat.le_of_ble_eq_true rfl, Nat.le_of_ble_eq_true rfl⟩ w_390 (Nat.le_of_ble_eq_true rfl) (fun μ1 hμ1 => ?_)
  refine sr_aload_n (i := 0) (pc' := 265) dX9_next_264 rfl rfl rfl ?_
  refine sr_dup (pc' := 266) dX9_next_265 rfl rfl ?_
  refine sr_getI (k := 19) (pc' := 269) cls_X9 dX9_next_266 rfl s88_61 rfl (by decide) w_379 ?_
  refine sr_iconst (pc' := 270) dX9_next_269 rfl (by decide) ?_
  refine sr_iadd (pc' := 271) dX9_next_270 rfl ?_
  refine sr_putI (k := 19) (pc' := 274) cls_X9 dX9_next_271 rfl s88_61 rfl (by decide) w_379 rfl rfl (fun μ2 hμ2 => ?_)
  exact sr_ret dX9_next_274 rfl rfl
def mod_next_8   : Nat → Mem → Option (Mem)
  | 0, _ => none
  | n + 1, μ => (mod_look μ (μ 61 19)).bind fun u1 => if u1 = 32 then (bnd (mset μ 61 19 (wI ((μ 61 19) + 1))) fun μ2 => mod_next_8 n μ2) else (bnd (mset μ 61 20 (μ 61 19)) fun μ3 => (mod_look μ3 (μ3 61 19)).bind fun u4 => if 0 ≤ u4 then ((mod_in μ3 u4 97 122).bind fun u5 => if u5 = 0 then ((mod_in μ3 u4 48 57).bind fun u6 => if u6 = 0 then (bnd (mset μ3 61 21 3) fun μ7 => if u4 = 59 then (mod_next_260 1 μ7) else (mod_next_260 0 μ7)) else (bnd (mset μ3 61 21 2) fun μ8 => bnd (mset μ8 61 22 0) fun μ9 => mod_next_140 BIG μ9)) else (bnd (mset μ3 61 21 1) fun μ10 => mod_next_82 BIG μ10)) else (bnd (mset μ3 61 21 0) fun μ11 => some μ11))
theorem mod_next_8_s {l : Launch} {G : Nv}     : ∀ (n : Nat) (μ : Mem), SR l G S88 mX9_next (mod_next_8 n μ) jM 8 [some (vR 61), none] [] μ := by
  intro n
  induction n with
  | zero => intro μ; exact sr_none
  | succ n ih =>
    intro μ
    rw [mod_next_8.eq_2]
    refine sr_aload_n (i := 0) (pc' := 9) dX9_next_8 rfl rfl rfl ?_
    refine sr_aload_n (i := 0) (pc' := 10) dX9_next_9 rfl rfl rfl ?_
    refine sr_getI (k := 19) (pc' := 13) cls_X9 dX9_next_10 rfl s88_61 rfl (by decide) w_379 ?_
    refine sr_callV1_I (pc' := 16) (mod_look_sp (μ 61 19) μ) dX9_next_13 rfl mg_X9_look mi_X9_look (Or.inl ⟨9, _, TX9, 40, s88_61, rfl⟩) ⟨Nat.le_of_ble_eq_true rfl, Nat.le_of_ble_eq_true rfl⟩ w_359 (Nat.le_of_ble_eq_true rfl) (fun u1 hu1 hcu1 hzu1 => ?_)
    refine sr_bipush (pc' := 18) dX9_next_16 rfl (by decide) (by decide) ?_
    refine sr_icmp_ne (pc' := 21) (tgt := 34) dX9_next_18 rfl rfl (fun c18 => ?_) (fun c18 => ?_)
    · refine sr_aload_n (i := 0) (pc' := 22) dX9_next_21 rfl rfl rfl ?_
      refine sr_dup (pc' := 23) dX9_next_22 rfl rfl ?_
      refine sr_getI (k := 19) (pc' := 26) cls_X9 dX9_next_23 rfl s88_61 rfl (by decide) w_379 ?_
      refine sr_iconst (pc' := 27) dX9_next_26 rfl (by decide) ?_
      refine sr_iadd (pc' := 28) dX9_next_27 rfl ?_
      refine sr_putI (k := 19) (pc' := 31) cls_X9 dX9_next_28 rfl s88_61 rfl (by decide) w_379 rfl rfl (fun μ2 hμ2 => ?_)
      refine sr_goto (pc' := 8) dX9_next_31 rfl ?_
      exact ih μ2
    · refine sr_aload_n (i := 0) (pc' := 35) dX9_next_34 rfl rfl rfl ?_
      refine sr_aload_n (i := 0) (pc' := 36) dX9_next_35 rfl rfl rfl ?_
      refine sr_getI (k := 19) (pc' := 39) cls_X9 dX9_next_36 rfl s88_61 rfl (by decide) w_379 ?_
      refine sr_putI (k := 20) (pc' := 42) cls_X9 dX9_next_39 rfl s88_61 rfl (by decide) w_358 rfl rfl (fun μ3 hμ3 => ?_)
      refine sr_aload_n (i := 0) (pc' := 43) dX9_next_42 rfl rfl rfl ?_
      refine sr_aload_n (i := 0) (pc' := 44) dX9_next_43 rfl rfl rfl ?_
      refine sr_getI (k := 19) (pc' := 47) cls_X9 dX9_next_44 rfl s88_61 rfl (by decide) w_379 ?_
      refine sr_callV1_I (pc' := 50) (mod_look_sp (μ3 61 19) μ3) dX9_next_47 rfl mg_X9_look mi_X9_look (Or.inl ⟨9, _, TX9, 40, s88_61, rfl⟩) ⟨Nat.le_of_ble_eq_true rfl, Nat.le_of_ble_eq_true rfl⟩ w_359 (Nat.le_of_ble_eq_true rfl) (fun u4 hu4 hcu4 hzu4 => ?_)
      refine sr_istore_n (i := 1) (lv' := [some (vR 61), some (vI u4)]) (pc' := 51) dX9_next_50 rfl rfl (by decide) rfl ?_
      refine sr_iload_n (i := 1) (pc' := 52) dX9_next_51 rfl rfl rfl ?_
      refine sr_if_ge (pc' := 55) (tgt := 63) dX9_next_52 rfl rfl (fun c52 => ?_) (fun c52 => ?_)
      · refine sr_iload_n (i := 1) (pc' := 64) dX9_next_63 rfl rfl rfl ?_
        refine sr_i2l (pc' := 65) dX9_next_64 rfl ?_
        refine sr_ldc2 (x := 97) (pc' := 68) dX9_next_65 rfl (by decide) w_395 ?_
        refine sr_ldc2 (x := 122) (pc' := 71) dX9_next_68 rfl (by decide) w_396 ?_
        refine sr_callS3_I (pc' := 74) (mod_in_sp u4 97 122 μ3) dX9_next_71 rfl mg_X9_in ms_X9_in ⟨Nat.le_of_ble_eq_true rfl, Nat.le_of_ble_eq_true rfl⟩ w_336 (Nat.le_of_ble_eq_true rfl) (fun u5 hu5 hcu5 hzu5 => ?_)
        refine sr_if_eq (pc' := 77) (tgt := 116) dX9_next_74 rfl rfl (fun c74 => ?_) (fun c74 => ?_)
        · refine sr_iload_n (i := 1) (pc' := 117) dX9_next_116 rfl rfl rfl ?_
          refine sr_i2l (pc' := 118) dX9_next_117 rfl ?_
          refine sr_ldc2 (x := 48) (pc' := 121) dX9_next_118 rfl (by decide) w_397 ?_
          refine sr_ldc2 (x := 57) (pc' := 124) dX9_next_121 rfl (by decide) w_398 ?_
          refine sr_callS3_I (pc' := 127) (mod_in_sp u4 48 57 μ3) dX9_next_124 rfl mg_X9_in ms_X9_in ⟨Nat.le_of_ble_eq_true rfl, Nat.le_of_ble_eq_true rfl⟩ w_336 (Nat.le_of_ble_eq_true rfl) (fun u6 hu6 hcu6 hzu6 => ?_)
          refine sr_if_eq (pc' := 130) (tgt := 243) dX9_next_127 rfl rfl (fun c127 => ?_) (fun c127 => ?_)
          · refine sr_aload_n (i := 0) (pc' := 244) dX9_next_243 rfl rfl rfl ?_
            refine sr_iconst (pc' := 245) dX9_next_244 rfl (by decide) ?_
            refine sr_putI (k := 21) (pc' := 248) cls_X9 dX9_next_245 rfl s88_61 rfl (by decide) w_392 rfl rfl (fun μ7 hμ7 => ?_)
            refine sr_aload_n (i := 0) (pc' := 249) dX9_next_248 rfl rfl rfl ?_
            refine sr_iload_n (i := 1) (pc' := 250) dX9_next_249 rfl rfl rfl ?_
            refine sr_bipush (pc' := 252) dX9_next_250 rfl (by decide) (by decide) ?_
            refine sr_icmp_ne (pc' := 255) (tgt := 259) dX9_next_252 rfl rfl (fun c252 => ?_) (fun c252 => ?_)
            · refine sr_iconst (pc' := 256) dX9_next_255 rfl (by decide) ?_
              refine sr_goto (pc' := 260) dX9_next_256 rfl ?_
              refine sr_fgt (fgt_s (fgt_n fgt_nil)) ?_
              exact mod_next_260_s 1 μ7
            · refine sr_iconst (pc' := 260) dX9_next_259 rfl (by decide) ?_
              refine sr_fgt (fgt_s (fgt_n fgt_nil)) ?_
              exact mod_next_260_s 0 μ7
          · refine sr_aload_n (i := 0) (pc' := 131) dX9_next_130 rfl rfl rfl ?_
            refine sr_iconst (pc' := 132) dX9_next_131 rfl (by decide) ?_
            refine sr_putI (k := 21) (pc' := 135) cls_X9 dX9_next_132 rfl s88_61 rfl (by decide) w_392 rfl rfl (fun μ8 hμ8 => ?_)
            refine sr_aload_n (i := 0) (pc' := 136) dX9_next_135 rfl rfl rfl ?_
            refine sr_iconst (pc' := 137) dX9_next_136 rfl (by decide) ?_
            refine sr_putI (k := 22) (pc' := 140) cls_X9 dX9_next_137 rfl s88_61 rfl (by decide) w_391 rfl rfl (fun μ9 hμ9 => ?_)
            refine sr_fgt (fgt_s (fgt_n fgt_nil)) ?_
            exact mod_next_140_s BIG μ9
        · refine sr_aload_n (i := 0) (pc' := 78) dX9_next_77 rfl rfl rfl ?_
          refine sr_iconst (pc' := 79) dX9_next_78 rfl (by decide) ?_
          refine sr_putI (k := 21) (pc' := 82) cls_X9 dX9_next_79 rfl s88_61 rfl (by decide) w_392 rfl rfl (fun μ10 hμ10 => ?_)
          refine sr_fgt (fgt_s (fgt_n fgt_nil)) ?_
          exact mod_next_82_s BIG μ10
      · refine sr_aload_n (i := 0) (pc' := 56) dX9_next_55 rfl rfl rfl ?_
        refine sr_iconst (pc' := 57) dX9_next_56 rfl (by decide) ?_
        refine sr_putI (k := 21) (pc' := 60) cls_X9 dX9_next_57 rfl s88_61 rfl (by decide) w_392 rfl rfl (fun μ11 hμ11 => ?_)
        refine sr_goto (pc' := 274) dX9_next_60 rfl ?_
        exact sr_ret dX9_next_274 rfl rfl
def mod_next   (μ : Mem) : Option (Mem) := if (μ 61 23) ≤ 0 then (mod_next_8 BIG μ) else (some μ)
theorem mod_next_sp {l : Launch} {G : Nv}   (μ : Mem) : SP l G S88 mX9_next [vR 61] μ (mod_next μ) jM := by
  refine sp_go (lv := [some (vR 61), none]) pn_X9 (Nat.le_of_ble_eq_true rfl) rfl ?_
  unfold mod_next
  refine sr_aload_n (i := 0) (pc' := 1) dX9_next_0 rfl rfl rfl ?_
  refine sr_getI (k := 23) (pc' := 4) cls_X9 dX9_next_1 rfl s88_61 rfl (by decide) w_360 ?_
  refine sr_if_le (pc' := 7) (tgt := 8) dX9_next_4 rfl rfl (fun c4 => ?_) (fun c4 => ?_)
  · exact mod_next_8_s BIG μ
  · exact sr_ret dX9_next_7 rfl rfl
def mod_swaps   (x1 x2 : Int) (μ : Mem) : Option (Mem) := (ld μ 80 5 x1).bind fun v1 => (ld μ 80 5 x2).bind fun v2 => (stx μ 80 5 x1 v2).bind fun μ3 => (stx μ3 80 5 x2 v1).bind fun μ4 => some μ4
theorem mod_swaps_sp {l : Launch} {G : Nv}   (x1 x2 : Int) (μ : Mem) : SP l G S88 mX9_swaps [vR 61, vI x1, vI x2] μ (mod_swaps x1 x2 μ) jM := by
  refine sp_go (lv := [some (vR 61), some (vI x1), some (vI x2), none]) pn_X9 (Nat.le_of_ble_eq_true rfl) rfl ?_
  unfold mod_swaps
  refine sr_aload_n (i := 0) (pc' := 1) dX9_swaps_0 rfl rfl rfl ?_
  refine sr_getR (k := 30) (b := 80) (pc' := 4) cls_X9 dX9_swaps_1 rfl s88_61 rfl (by decide) w_324 ?_
  refine sr_iload_n (i := 1) (pc' := 5) dX9_swaps_4 rfl rfl rfl ?_
  refine sr_iald (pc' := 6) dX9_swaps_5 rfl s88_80 (by decide) (fun v1 hv1 hv1a hv1b => ?_)
  refine sr_istore_n (i := 3) (lv' := [some (vR 61), some (vI x1), some (vI x2), some (vI v1)]) (pc' := 7) dX9_swaps_6 rfl rfl (by decide) rfl ?_
  refine sr_aload_n (i := 0) (pc' := 8) dX9_swaps_7 rfl rfl rfl ?_
  refine sr_getR (k := 30) (b := 80) (pc' := 11) cls_X9 dX9_swaps_8 rfl s88_61 rfl (by decide) w_324 ?_
  refine sr_iload_n (i := 1) (pc' := 12) dX9_swaps_11 rfl rfl rfl ?_
  refine sr_aload_n (i := 0) (pc' := 13) dX9_swaps_12 rfl rfl rfl ?_
  refine sr_getR (k := 30) (b := 80) (pc' := 16) cls_X9 dX9_swaps_13 rfl s88_61 rfl (by decide) w_324 ?_
  refine sr_iload_n (i := 2) (pc' := 17) dX9_swaps_16 rfl rfl rfl ?_
  refine sr_iald (pc' := 18) dX9_swaps_17 rfl s88_80 (by decide) (fun v2 hv2 hv2a hv2b => ?_)
  refine sr_iast (pc' := 19) dX9_swaps_18 rfl s88_80 (by decide) (fun μ3 hμ3 hμ3a hμ3b => ?_)
  refine sr_aload_n (i := 0) (pc' := 20) dX9_swaps_19 rfl rfl rfl ?_
  refine sr_getR (k := 30) (b := 80) (pc' := 23) cls_X9 dX9_swaps_20 rfl s88_61 rfl (by decide) w_324 ?_
  refine sr_iload_n (i := 2) (pc' := 24) dX9_swaps_23 rfl rfl rfl ?_
  refine sr_iload_n (i := 3) (pc' := 25) dX9_swaps_24 rfl rfl rfl ?_
  refine sr_iast (pc' := 26) dX9_swaps_25 rfl s88_80 (by decide) (fun μ4 hμ4 hμ4a hμ4b => ?_)
  exact sr_ret dX9_swaps_26 rfl rfl
def mod_nextOrder_85   : Nat → Int → Int → Mem → Option (Int × Mem)
  | 0, _, _, _ => none
  | n + 1, x4, x5, μ => if x5 ≤ x4 then (some (1, μ)) else ((mod_swaps x4 x5 μ).bind fun μ1 => mod_nextOrder_85 n (wI (x4 + 1)) (wI (x5 + (-1))) μ1)
theorem mod_nextOrder_85_s {l : Launch} {G : Nv}     : ∀ (n : Nat) (x4 x5 : Int) (μ : Mem), SR l G S88 mX9_nextOrder (mod_nextOrder_85 n x4 x5 μ) jIM 85 [some (vR 61), none, none, none, some (vI x4), some (vI x5)] [] μ := by
  intro n
  induction n with
  | zero => intro x4 x5 μ; exact sr_none
  | succ n ih =>
    intro x4 x5 μ
    rw [mod_nextOrder_85.eq_2]
    refine sr_iload (pc' := 87) dX9_nextOrder_85 rfl rfl ?_
    refine sr_iload (pc' := 89) dX9_nextOrder_87 rfl rfl ?_
    refine sr_icmp_ge (pc' := 92) (tgt := 109) dX9_nextOrder_89 rfl rfl (fun c89 => ?_) (fun c89 => ?_)
    · refine sr_iconst (pc' := 110) dX9_nextOrder_109 rfl (by decide) ?_
      exact sr_iretZ dX9_nextOrder_110 rfl (Or.inr rfl) rfl
    · refine sr_aload_n (i := 0) (pc' := 93) dX9_nextOrder_92 rfl rfl rfl ?_
      refine sr_iload (pc' := 95) dX9_nextOrder_93 rfl rfl ?_
      refine sr_iload (pc' := 97) dX9_nextOrder_95 rfl rfl ?_
      refine sr_callV2_M (pc' := 100) (mod_swaps_sp x4 x5 μ) dX9_nextOrder_97 rfl mg_X9_swaps mi_X9_swaps (Or.inl ⟨9, _, TX9, 40, s88_61, rfl⟩) ⟨Nat.le_of_ble_eq_true rfl, Nat.le_of_ble_eq_true rfl⟩ w_399 (Nat.le_of_ble_eq_true rfl) (fun μ1 hμ1 => ?_)
      refine sr_iinc (lv' := [some (vR 61), none, none, none, some (vI (wI (x4 + 1))), some (vI x5)]) (pc' := 103) dX9_nextOrder_100 rfl (by decide) rfl rfl ?_
      refine sr_iinc (lv' := [some (vR 61), none, none, none, some (vI (wI (x4 + 1))), some (vI (wI (x5 + (-1))))]) (pc' := 106) dX9_nextOrder_103 rfl (by decide) rfl rfl ?_
      refine sr_goto (pc' := 85) dX9_nextOrder_106 rfl ?_
      exact ih (wI (x4 + 1)) (wI (x5 + (-1))) μ1
def mod_nextOrder_48   : Nat → Int → Int → Int → Mem → Option (Int × Mem)
  | 0, _, _, _, _ => none
  | n + 1, x1, x2, x3, μ => (ld μ 80 5 x3).bind fun v1 => (ld μ 80 5 x2).bind fun v2 => if v2 ≤ v1 then ((mod_swaps x2 x3 μ).bind fun μ3 => bnd (wI (x2 + 1)) fun v4 => bnd (wI (x1 - 1)) fun v5 => mod_nextOrder_85 BIG v4 v5 μ3) else (mod_nextOrder_48 n x1 x2 (wI (x3 + (-1))) μ)
theorem mod_nextOrder_48_s {l : Launch} {G : Nv}     : ∀ (n : Nat) (x1 x2 x3 : Int) (μ : Mem), SR l G S88 mX9_nextOrder (mod_nextOrder_48 n x1 x2 x3 μ) jIM 48 [some (vR 61), some (vI x1), some (vI x2), some (vI x3), none, none] [] μ := by
  intro n
  induction n with
  | zero => intro x1 x2 x3 μ; exact sr_none
  | succ n ih =>
    intro x1 x2 x3 μ
    rw [mod_nextOrder_48.eq_2]
    refine sr_aload_n (i := 0) (pc' := 49) dX9_nextOrder_48 rfl rfl rfl ?_
    refine sr_getR (k := 30) (b := 80) (pc' := 52) cls_X9 dX9_nextOrder_49 rfl s88_61 rfl (by decide) w_324 ?_
    refine sr_iload_n (i := 3) (pc' := 53) dX9_nextOrder_52 rfl rfl rfl ?_
    refine sr_iald (pc' := 54) dX9_nextOrder_53 rfl s88_80 (by decide) (fun v1 hv1 hv1a hv1b => ?_)
    refine sr_aload_n (i := 0) (pc' := 55) dX9_nextOrder_54 rfl rfl rfl ?_
    refine sr_getR (k := 30) (b := 80) (pc' := 58) cls_X9 dX9_nextOrder_55 rfl s88_61 rfl (by decide) w_324 ?_
    refine sr_iload_n (i := 2) (pc' := 59) dX9_nextOrder_58 rfl rfl rfl ?_
    refine sr_iald (pc' := 60) dX9_nextOrder_59 rfl s88_80 (by decide) (fun v2 hv2 hv2a hv2b => ?_)
    refine sr_icmp_ge (pc' := 63) (tgt := 69) dX9_nextOrder_60 rfl rfl (fun c60 => ?_) (fun c60 => ?_)
    · refine sr_aload_n (i := 0) (pc' := 70) dX9_nextOrder_69 rfl rfl rfl ?_
      refine sr_iload_n (i := 2) (pc' := 71) dX9_nextOrder_70 rfl rfl rfl ?_
      refine sr_iload_n (i := 3) (pc' := 72) dX9_nextOrder_71 rfl rfl rfl ?_
      refine sr_callV2_M (pc' := 75) (mod_swaps_sp x2 x3 μ) dX9_nextOrder_72 rfl mg_X9_swaps mi_X9_swaps (Or.inl ⟨9, _, TX9, 40, s88_61, rfl⟩) ⟨Nat.le_of_ble_eq_true rfl, Nat.le_of_ble_eq_true rfl⟩ w_399 (Nat.le_of_ble_eq_true rfl) (fun μ3 hμ3 => ?_)
      refine sr_iload_n (i := 2) (pc' := 76) dX9_nextOrder_75 rfl rfl rfl ?_
      refine sr_iconst (pc' := 77) dX9_nextOrder_76 rfl (by decide) ?_
      refine sr_iadd (pc' := 78) dX9_nextOrder_77 rfl ?_
      refine sr_bnd (fun v4 hv4 => ?_)
      refine sr_istore (lv' := [some (vR 61), some (vI x1), some (vI x2), some (vI x3), some (vI v4), none]) (pc' := 80) dX9_nextOrder_78 rfl (by decide) rfl ?_
      refine sr_iload_n (i := 1) (pc' := 81) dX9_nextOrder_80 rfl rfl rfl ?_
      refine sr_iconst (pc' := 82) dX9_nextOrder_81 rfl (by decide) ?_
      refine sr_isub (pc' := 83) dX9_nextOrder_82 rfl ?_
      refine sr_bnd (fun v5 hv5 => ?_)
      refine sr_istore (lv' := [some (vR 61), some (vI x1), some (vI x2), some (vI x3), some (vI v4), some (vI v5)]) (pc' := 85) dX9_nextOrder_83 rfl (by decide) rfl ?_
      refine sr_fgt (fgt_s (fgt_n (fgt_n (fgt_n (fgt_s (fgt_s fgt_nil)))))) ?_
      exact mod_nextOrder_85_s BIG v4 v5 μ3
    · refine sr_iinc (lv' := [some (vR 61), some (vI x1), some (vI x2), some (vI (wI (x3 + (-1)))), none, none]) (pc' := 66) dX9_nextOrder_63 rfl (by decide) rfl rfl ?_
      refine sr_goto (pc' := 48) dX9_nextOrder_66 rfl ?_
      exact ih x1 x2 (wI (x3 + (-1))) μ
def mod_nextOrder_38   (x1 x2 : Int) (μ : Mem) : Option (Int × Mem) := if 0 ≤ x2 then (bnd (wI (x1 - 1)) fun v1 => mod_nextOrder_48 BIG x1 x2 v1 μ) else (some (0, μ))
theorem mod_nextOrder_38_s {l : Launch} {G : Nv}     : ∀ (x1 x2 : Int) (μ : Mem), SR l G S88 mX9_nextOrder (mod_nextOrder_38 x1 x2 μ) jIM 38 [some (vR 61), some (vI x1), some (vI x2), none, none, none] [] μ := by
  intro x1 x2 μ
  unfold mod_nextOrder_38
  refine sr_iload_n (i := 2) (pc' := 39) dX9_nextOrder_38 rfl rfl rfl ?_
  refine sr_if_ge (pc' := 42) (tgt := 44) dX9_nextOrder_39 rfl rfl (fun c39 => ?_) (fun c39 => ?_)
  · refine sr_iload_n (i := 1) (pc' := 45) dX9_nextOrder_44 rfl rfl rfl ?_
    refine sr_iconst (pc' := 46) dX9_nextOrder_45 rfl (by decide) ?_
    refine sr_isub (pc' := 47) dX9_nextOrder_46 rfl ?_
    refine sr_bnd (fun v1 hv1 => ?_)
    refine sr_istore_n (i := 3) (lv' := [some (vR 61), some (vI x1), some (vI x2), some (vI v1), none, none]) (pc' := 48) dX9_nextOrder_47 rfl rfl (by decide) rfl ?_
    exact mod_nextOrder_48_s BIG x1 x2 v1 μ
  · refine sr_iconst (pc' := 43) dX9_nextOrder_42 rfl (by decide) ?_
    exact sr_iretZ dX9_nextOrder_43 rfl (Or.inl rfl) rfl
def mod_nextOrder_11   : Nat → Int → Int → Mem → Option (Int × Mem)
  | 0, _, _, _ => none
  | n + 1, x1, x2, μ => if x2 < 0 then (mod_nextOrder_38 x1 x2 μ) else ((ld μ 80 5 x2).bind fun v1 => (ld μ 80 5 (wI (x2 + 1))).bind fun v2 => if v1 ≤ v2 then (mod_nextOrder_38 x1 x2 μ) else (mod_nextOrder_11 n x1 (wI (x2 + (-1))) μ))
theorem mod_nextOrder_11_s {l : Launch} {G : Nv}     : ∀ (n : Nat) (x1 x2 : Int) (μ : Mem), SR l G S88 mX9_nextOrder (mod_nextOrder_11 n x1 x2 μ) jIM 11 [some (vR 61), some (vI x1), some (vI x2), none, none, none] [] μ := by
  intro n
  induction n with
  | zero => intro x1 x2 μ; exact sr_none
  | succ n ih =>
    intro x1 x2 μ
    rw [mod_nextOrder_11.eq_2]
    refine sr_iload_n (i := 2) (pc' := 12) dX9_nextOrder_11 rfl rfl rfl ?_
    refine sr_if_lt (pc' := 15) (tgt := 38) dX9_nextOrder_12 rfl rfl (fun c12 => ?_) (fun c12 => ?_)
    · exact mod_nextOrder_38_s x1 x2 μ
    · refine sr_aload_n (i := 0) (pc' := 16) dX9_nextOrder_15 rfl rfl rfl ?_
      refine sr_getR (k := 30) (b := 80) (pc' := 19) cls_X9 dX9_nextOrder_16 rfl s88_61 rfl (by decide) w_324 ?_
      refine sr_iload_n (i := 2) (pc' := 20) dX9_nextOrder_19 rfl rfl rfl ?_
      refine sr_iald (pc' := 21) dX9_nextOrder_20 rfl s88_80 (by decide) (fun v1 hv1 hv1a hv1b => ?_)
      refine sr_aload_n (i := 0) (pc' := 22) dX9_nextOrder_21 rfl rfl rfl ?_
      refine sr_getR (k := 30) (b := 80) (pc' := 25) cls_X9 dX9_nextOrder_22 rfl s88_61 rfl (by decide) w_324 ?_
      refine sr_iload_n (i := 2) (pc' := 26) dX9_nextOrder_25 rfl rfl rfl ?_
      refine sr_iconst (pc' := 27) dX9_nextOrder_26 rfl (by decide) ?_
      refine sr_iadd (pc' := 28) dX9_nextOrder_27 rfl ?_
      refine sr_iald (pc' := 29) dX9_nextOrder_28 rfl s88_80 (by decide) (fun v2 hv2 hv2a hv2b => ?_)
      refine sr_icmp_le (pc' := 32) (tgt := 38) dX9_nextOrder_29 rfl rfl (fun c29 => ?_) (fun c29 => ?_)
      · exact mod_nextOrder_38_s x1 x2 μ
      · refine sr_iinc (lv' := [some (vR 61), some (vI x1), some (vI (wI (x2 + (-1)))), none, none, none]) (pc' := 35) dX9_nextOrder_32 rfl (by decide) rfl rfl ?_
        refine sr_goto (pc' := 11) dX9_nextOrder_35 rfl ?_
        exact ih x1 (wI (x2 + (-1))) μ
def mod_nextOrder   (μ : Mem) : Option (Int × Mem) := bnd (μ 62 0) fun v1 => bnd (wI (v1 - 2)) fun v2 => mod_nextOrder_11 BIG v1 v2 μ
theorem mod_nextOrder_sp {l : Launch} {G : Nv}   (μ : Mem) : SP l G S88 mX9_nextOrder [vR 61] μ (mod_nextOrder μ) jIM := by
  refine sp_go (lv := [some (vR 61), none, none, none, none, none]) pn_X9 (Nat.le_of_ble_eq_true rfl) rfl ?_
  unfold mod_nextOrder
  refine sr_aload_n (i := 0) (pc' := 1) dX9_nextOrder_0 rfl rfl rfl ?_
  refine sr_getR (k := 0) (b := 62) (pc' := 4) cls_X9 dX9_nextOrder_1 rfl s88_61 rfl (by decide) w_311 ?_
  refine sr_iconst (pc' := 5) dX9_nextOrder_4 rfl (by decide) ?_
  refine sr_ialdc (j := 0) (pc' := 6) dX9_nextOrder_5 rfl s88_62 (by decide) (by decide) (by decide) rfl ?_
  refine sr_bnd (fun v1 hv1 => ?_)
  refine sr_istore_n (i := 1) (lv' := [some (vR 61), some (vI v1), none, none, none, none]) (pc' := 7) dX9_nextOrder_6 rfl rfl (by decide) rfl ?_
  refine sr_iload_n (i := 1) (pc' := 8) dX9_nextOrder_7 rfl rfl rfl ?_
  refine sr_iconst (pc' := 9) dX9_nextOrder_8 rfl (by decide) ?_
  refine sr_isub (pc' := 10) dX9_nextOrder_9 rfl ?_
  refine sr_bnd (fun v2 hv2 => ?_)
  refine sr_istore_n (i := 2) (lv' := [some (vR 61), some (vI v1), some (vI v2), none, none, none]) (pc' := 11) dX9_nextOrder_10 rfl rfl (by decide) rfl ?_
  exact mod_nextOrder_11_s BIG v1 v2 μ
def mod_order_79  (k110 : Int → Int → Mem → Option (Int × Mem)) : Nat → Int → Int → Int → Mem → Option (Int × Mem)
  | 0, _, _, _, _ => none
  | n + 1, x1, x2, x5, μ => if (μ 62 0) ≤ x5 then (k110 x1 x2 μ) else ((ld μ 80 5 x5).bind fun v1 => (stx μ 81 5 x5 v1).bind fun μ2 => mod_order_79 k110 n x1 x2 (wI (x5 + 1)) μ2)
theorem mod_order_79_s {l : Launch} {G : Nv}   {k110 : Int → Int → Mem → Option (Int × Mem)} (hk110 : ∀ (x1 x2 : Int) (μ : Mem) , SR l G S88 mX9_order (k110 x1 x2 μ) jIM 110 [some (vR 61), some (vI x1), some (vI x2), none, none, none] [] μ) : ∀ (n : Nat) (x1 x2 x5 : Int) (μ : Mem), SR l G S88 mX9_order (mod_order_79 k110 n x1 x2 x5 μ) jIM 79 [some (vR 61), some (vI x1), some (vI x2), none, none, some (vI x5)] [] μ := by
  intro n
  induction n with
  | zero => intro x1 x2 x5 μ; exact sr_none
  | succ n ih =>
    intro x1 x2 x5 μ
    rw [mod_order_79.eq_2]
    refine sr_iload (pc' := 81) dX9_order_79 rfl rfl ?_
    refine sr_aload_n (i := 0) (pc' := 82) dX9_order_81 rfl rfl rfl ?_
    refine sr_getR (k := 0) (b := 62) (pc' := 85) cls_X9 dX9_order_82 rfl s88_61 rfl (by decide) w_311 ?_
    refine sr_iconst (pc' := 86) dX9_order_85 rfl (by decide) ?_
    refine sr_ialdc (j := 0) (pc' := 87) dX9_order_86 rfl s88_62 (by decide) (by decide) (by decide) rfl ?_
    refine sr_icmp_ge (pc' := 90) (tgt := 110) dX9_order_87 rfl rfl (fun c87 => ?_) (fun c87 => ?_)
    · refine sr_fgt (fgt_s (fgt_s (fgt_s (fgt_s (fgt_s (fgt_n fgt_nil)))))) ?_
      exact hk110 x1 x2 μ
    · refine sr_aload_n (i := 0) (pc' := 91) dX9_order_90 rfl rfl rfl ?_
      refine sr_getR (k := 32) (b := 81) (pc' := 94) cls_X9 dX9_order_91 rfl s88_61 rfl (by decide) w_400 ?_
      refine sr_iload (pc' := 96) dX9_order_94 rfl rfl ?_
      refine sr_aload_n (i := 0) (pc' := 97) dX9_order_96 rfl rfl rfl ?_
      refine sr_getR (k := 30) (b := 80) (pc' := 100) cls_X9 dX9_order_97 rfl s88_61 rfl (by decide) w_324 ?_
      refine sr_iload (pc' := 102) dX9_order_100 rfl rfl ?_
      refine sr_iald (pc' := 103) dX9_order_102 rfl s88_80 (by decide) (fun v1 hv1 hv1a hv1b => ?_)
      refine sr_iast (pc' := 104) dX9_order_103 rfl s88_81 (by decide) (fun μ2 hμ2 hμ2a hμ2b => ?_)
      refine sr_iinc (lv' := [some (vR 61), some (vI x1), some (vI x2), none, none, some (vI (wI (x5 + 1)))]) (pc' := 107) dX9_order_104 rfl (by decide) rfl rfl ?_
      refine sr_goto (pc' := 79) dX9_order_107 rfl ?_
      exact ih x1 x2 (wI (x5 + 1)) μ2
def mod_order_73  (k110 : Int → Int → Mem → Option (Int × Mem)) (x1 x4 : Int) (μ : Mem) : Option (Int × Mem) := mod_order_79 k110 BIG x1 x4 0 μ
theorem mod_order_73_s {l : Launch} {G : Nv}   {k110 : Int → Int → Mem → Option (Int × Mem)} (hk110 : ∀ (x1 x2 : Int) (μ : Mem) , SR l G S88 mX9_order (k110 x1 x2 μ) jIM 110 [some (vR 61), some (vI x1), some (vI x2), none, none, none] [] μ) : ∀ (x1 x4 : Int) (μ : Mem), SR l G S88 mX9_order (mod_order_73 k110 x1 x4 μ) jIM 73 [some (vR 61), some (vI x1), none, none, some (vI x4), none] [] μ := by
  intro x1 x4 μ
  unfold mod_order_73
  refine sr_iload (pc' := 75) dX9_order_73 rfl rfl ?_
  refine sr_istore_n (i := 2) (lv' := [some (vR 61), some (vI x1), some (vI x4), none, some (vI x4), none]) (pc' := 76) dX9_order_75 rfl rfl (by decide) rfl ?_
  refine sr_iconst (pc' := 77) dX9_order_76 rfl (by decide) ?_
  refine sr_istore (lv' := [some (vR 61), some (vI x1), some (vI x4), none, some (vI x4), some (vI 0)]) (pc' := 79) dX9_order_77 rfl (by decide) rfl ?_
  refine sr_fgt (fgt_s (fgt_s (fgt_s (fgt_s (fgt_n (fgt_s fgt_nil)))))) ?_
  exact mod_order_79_s hk110 BIG x1 x4 0 μ
def mod_order_110  (k38 : Int → Int → Int → Mem → Option (Int × Mem)) (x1 x2 : Int) (μ : Mem) : Option (Int × Mem) := (mod_nextOrder μ).bind fun u1 => k38 x1 x2 u1.1 u1.2
theorem mod_order_110_s {l : Launch} {G : Nv}   {k38 : Int → Int → Int → Mem → Option (Int × Mem)} (hk38 : ∀ (x1 x2 x3 : Int) (μ : Mem) , SR l G S88 mX9_order (k38 x1 x2 x3 μ) jIM 38 [some (vR 61), some (vI x1), some (vI x2), some (vI x3), none, none] [] μ) : ∀ (x1 x2 : Int) (μ : Mem), SR l G S88 mX9_order (mod_order_110 k38 x1 x2 μ) jIM 110 [some (vR 61), some (vI x1), some (vI x2), none, none, none] [] μ := by
  intro x1 x2 μ
  unfold mod_order_110
  refine sr_aload_n (i := 0) (pc' := 111) dX9_order_110 rfl rfl rfl ?_
  refine sr_callV0_IM (pc' := 114) (mod_nextOrder_sp μ) dX9_order_111 rfl mg_X9_nextOrder mi_X9_nextOrder (Or.inl ⟨9, _, TX9, 40, s88_61, rfl⟩) ⟨Nat.le_of_ble_eq_true rfl, Nat.le_of_ble_eq_true rfl⟩ w_401 (Nat.le_of_ble_eq_true rfl) (fun u1 hu1 hcu1 hzu1 => ?_)
  refine sr_istore_n (i := 3) (lv' := [some (vR 61), some (vI x1), some (vI x2), some (vI u1.1), none, none]) (pc' := 115) dX9_order_114 rfl rfl (by decide) rfl ?_
  refine sr_goto (pc' := 38) dX9_order_115 rfl ?_
  exact hk38 x1 x2 u1.1 u1.2
def mod_order_38   : Nat → Int → Int → Int → Mem → Option (Int × Mem)
  | 0, _, _, _, _ => none
  | n + 1, x1, x2, x3, μ => if x3 = 0 then (if x2 = (-4) then (some ((-4), μ)) else (if x1 = 0 then (some (x2, μ)) else ((ld μ 81 5 (wI (x1 - 10))).bind fun v1 => some (v1, μ)))) else ((mod_runs 60 μ).bind fun μ2 => (mod_sumDone μ2).bind fun u3 => if u3 = (-4) then (mod_order_110 (mod_order_38 n) x1 x2 μ2) else (if x2 = (-4) then (mod_order_73 (mod_order_110 (mod_order_38 n)) x1 u3 μ2) else (if x2 ≤ u3 then (mod_order_110 (mod_order_38 n) x1 x2 μ2) else (mod_order_73 (mod_order_110 (mod_order_38 n)) x1 u3 μ2))))
theorem mod_order_38_s {l : Launch} {G : Nv}     : ∀ (n : Nat) (x1 x2 x3 : Int) (μ : Mem), SR l G S88 mX9_order (mod_order_38 n x1 x2 x3 μ) jIM 38 [some (vR 61), some (vI x1), some (vI x2), some (vI x3), none, none] [] μ := by
  intro n
  induction n with
  | zero => intro x1 x2 x3 μ; exact sr_none
  | succ n ih =>
    intro x1 x2 x3 μ
    rw [mod_order_38.eq_2]
    refine sr_iload_n (i := 3) (pc' := 39) dX9_order_38 rfl rfl rfl ?_
    refine sr_if_eq (pc' := 42) (tgt := 118) dX9_order_39 rfl rfl (fun c39 => ?_) (fun c39 => ?_)
    · refine sr_iload_n (i := 2) (pc' := 119) dX9_order_118 rfl rfl rfl ?_
      refine sr_bipush (pc' := 121) dX9_order_119 rfl (by decide) (by decide) ?_
      refine sr_icmp_ne (pc' := 124) (tgt := 129) dX9_order_121 rfl rfl (fun c121 => ?_) (fun c121 => ?_)
      · refine sr_bipush (pc' := 126) dX9_order_124 rfl (by decide) (by decide) ?_
        refine sr_goto (pc' := 146) dX9_order_126 rfl ?_
        exact sr_iretI dX9_order_146 rfl rfl
      · refine sr_iload_n (i := 1) (pc' := 130) dX9_order_129 rfl rfl rfl ?_
        refine sr_if_ne (pc' := 133) (tgt := 137) dX9_order_130 rfl rfl (fun c130 => ?_) (fun c130 => ?_)
        · refine sr_iload_n (i := 2) (pc' := 134) dX9_order_133 rfl rfl rfl ?_
          refine sr_goto (pc' := 146) dX9_order_134 rfl ?_
          exact sr_iretI dX9_order_146 rfl rfl
        · refine sr_aload_n (i := 0) (pc' := 138) dX9_order_137 rfl rfl rfl ?_
          refine sr_getR (k := 32) (b := 81) (pc' := 141) cls_X9 dX9_order_138 rfl s88_61 rfl (by decide) w_400 ?_
          refine sr_iload_n (i := 1) (pc' := 142) dX9_order_141 rfl rfl rfl ?_
          refine sr_bipush (pc' := 144) dX9_order_142 rfl (by decide) (by decide) ?_
          refine sr_isub (pc' := 145) dX9_order_144 rfl ?_
          refine sr_iald (pc' := 146) dX9_order_145 rfl s88_81 (by decide) (fun v1 hv1 hv1a hv1b => ?_)
          exact sr_iretI dX9_order_146 rfl rfl
    · refine sr_aload_n (i := 0) (pc' := 43) dX9_order_42 rfl rfl rfl ?_
      refine sr_bipush (pc' := 45) dX9_order_43 rfl (by decide) (by decide) ?_
      refine sr_callV1_M (pc' := 48) (mod_runs_sp 60 μ) dX9_order_45 rfl mg_X9_runs mi_X9_runs (Or.inl ⟨9, _, TX9, 40, s88_61, rfl⟩) ⟨Nat.le_of_ble_eq_true rfl, Nat.le_of_ble_eq_true rfl⟩ w_328 (Nat.le_of_ble_eq_true rfl) (fun μ2 hμ2 => ?_)
      refine sr_aload_n (i := 0) (pc' := 49) dX9_order_48 rfl rfl rfl ?_
      refine sr_callV0_I (pc' := 52) (mod_sumDone_sp μ2) dX9_order_49 rfl mg_X9_sumDone mi_X9_sumDone (Or.inl ⟨9, _, TX9, 40, s88_61, rfl⟩) ⟨Nat.le_of_ble_eq_true rfl, Nat.le_of_ble_eq_true rfl⟩ w_329 (Nat.le_of_ble_eq_true rfl) (fun u3 hu3 hcu3 hzu3 => ?_)
      refine sr_istore (lv' := [some (vR 61), some (vI x1), some (vI x2), some (vI x3), some (vI u3), none]) (pc' := 54) dX9_order_52 rfl (by decide) rfl ?_
      refine sr_iload (pc' := 56) dX9_order_54 rfl rfl ?_
      refine sr_bipush (pc' := 58) dX9_order_56 rfl (by decide) (by decide) ?_
      refine sr_icmp_eq (pc' := 61) (tgt := 110) dX9_order_58 rfl rfl (fun c58 => ?_) (fun c58 => ?_)
      · refine sr_fgt (fgt_s (fgt_s (fgt_s (fgt_n (fgt_n (fgt_s fgt_nil)))))) ?_
        exact mod_order_110_s ih x1 x2 μ2
      · refine sr_iload_n (i := 2) (pc' := 62) dX9_order_61 rfl rfl rfl ?_
        refine sr_bipush (pc' := 64) dX9_order_62 rfl (by decide) (by decide) ?_
        refine sr_icmp_eq (pc' := 67) (tgt := 73) dX9_order_64 rfl rfl (fun c64 => ?_) (fun c64 => ?_)
        · refine sr_fgt (fgt_s (fgt_s (fgt_n (fgt_n (fgt_s (fgt_s fgt_nil)))))) ?_
          exact mod_order_73_s (mod_order_110_s ih) x1 u3 μ2
        · refine sr_iload (pc' := 69) dX9_order_67 rfl rfl ?_
          refine sr_iload_n (i := 2) (pc' := 70) dX9_order_69 rfl rfl rfl ?_
          refine sr_icmp_ge (pc' := 73) (tgt := 110) dX9_order_70 rfl rfl (fun c70 => ?_) (fun c70 => ?_)
          · refine sr_fgt (fgt_s (fgt_s (fgt_s (fgt_n (fgt_n (fgt_s fgt_nil)))))) ?_
            exact mod_order_110_s ih x1 x2 μ2
          · refine sr_fgt (fgt_s (fgt_s (fgt_n (fgt_n (fgt_s (fgt_s fgt_nil)))))) ?_
            exact mod_order_73_s (mod_order_110_s ih) x1 u3 μ2
def mod_order_17   (x1 : Int) (μ : Mem) : Option (Int × Mem) := if (μ 62 0) = 0 then (some ((-2), μ)) else ((mod_byNumbers μ).bind fun μ1 => mod_order_38 BIG x1 (-4) 1 μ1)
theorem mod_order_17_s {l : Launch} {G : Nv}     : ∀ (x1 : Int) (μ : Mem), SR l G S88 mX9_order (mod_order_17 x1 μ) jIM 17 [some (vR 61), some (vI x1), none, none, none, none] [] μ := by
  intro x1 μ
  unfold mod_order_17
  refine sr_aload_n (i := 0) (pc' := 18) dX9_order_17 rfl rfl rfl ?_
  refine sr_getR (k := 0) (b := 62) (pc' := 21) cls_X9 dX9_order_18 rfl s88_61 rfl (by decide) w_311 ?_
  refine sr_iconst (pc' := 22) dX9_order_21 rfl (by decide) ?_
  refine sr_ialdc (j := 0) (pc' := 23) dX9_order_22 rfl s88_62 (by decide) (by decide) (by decide) rfl ?_
  refine sr_if_ne (pc' := 26) (tgt := 29) dX9_order_23 rfl rfl (fun c23 => ?_) (fun c23 => ?_)
  · refine sr_bipush (pc' := 28) dX9_order_26 rfl (by decide) (by decide) ?_
    exact sr_iretI dX9_order_28 rfl rfl
  · refine sr_bipush (pc' := 31) dX9_order_29 rfl (by decide) (by decide) ?_
    refine sr_istore_n (i := 2) (lv' := [some (vR 61), some (vI x1), some (vI (-4)), none, none, none]) (pc' := 32) dX9_order_31 rfl rfl (by decide) rfl ?_
    refine sr_aload_n (i := 0) (pc' := 33) dX9_order_32 rfl rfl rfl ?_
    refine sr_callV0_M (pc' := 36) (mod_byNumbers_sp μ) dX9_order_33 rfl mg_X9_byNumbers mi_X9_byNumbers (Or.inl ⟨9, _, TX9, 40, s88_61, rfl⟩) ⟨Nat.le_of_ble_eq_true rfl, Nat.le_of_ble_eq_true rfl⟩ w_353 (Nat.le_of_ble_eq_true rfl) (fun μ1 hμ1 => ?_)
    refine sr_iconst (pc' := 37) dX9_order_36 rfl (by decide) ?_
    refine sr_istore_n (i := 3) (lv' := [some (vR 61), some (vI x1), some (vI (-4)), some (vI 1), none, none]) (pc' := 38) dX9_order_37 rfl rfl (by decide) rfl ?_
    exact mod_order_38_s BIG x1 (-4) 1 μ1
def mod_order   (x1 : Int) (μ : Mem) : Option (Int × Mem) := if x1 = 0 then (mod_order_17 x1 μ) else ((mod_isCart μ (wI (x1 - 10))).bind fun u1 => if u1 = 0 then (some ((-1), μ)) else (mod_order_17 x1 μ))
theorem mod_order_sp {l : Launch} {G : Nv}   (x1 : Int) (μ : Mem) : SP l G S88 mX9_order [vR 61, vI x1] μ (mod_order x1 μ) jIM := by
  refine sp_go (lv := [some (vR 61), some (vI x1), none, none, none, none]) pn_X9 (Nat.le_of_ble_eq_true rfl) rfl ?_
  unfold mod_order
  refine sr_iload_n (i := 1) (pc' := 1) dX9_order_0 rfl rfl rfl ?_
  refine sr_if_eq (pc' := 4) (tgt := 17) dX9_order_1 rfl rfl (fun c1 => ?_) (fun c1 => ?_)
  · exact mod_order_17_s x1 μ
  · refine sr_aload_n (i := 0) (pc' := 5) dX9_order_4 rfl rfl rfl ?_
    refine sr_iload_n (i := 1) (pc' := 6) dX9_order_5 rfl rfl rfl ?_
    refine sr_bipush (pc' := 8) dX9_order_6 rfl (by decide) (by decide) ?_
    refine sr_isub (pc' := 9) dX9_order_8 rfl ?_
    refine sr_callV1_I (pc' := 12) (mod_isCart_sp (wI (x1 - 10)) μ) dX9_order_9 rfl mg_X9_isCart mi_X9_isCart (Or.inl ⟨9, _, TX9, 40, s88_61, rfl⟩) ⟨Nat.le_of_ble_eq_true rfl, Nat.le_of_ble_eq_true rfl⟩ w_345 (Nat.le_of_ble_eq_true rfl) (fun u1 hu1 hcu1 hzu1 => ?_)
    refine sr_if_ne (pc' := 15) (tgt := 17) dX9_order_12 rfl rfl (fun c12 => ?_) (fun c12 => ?_)
    · refine sr_iconst (pc' := 16) dX9_order_15 rfl (by decide) ?_
      exact sr_iretI dX9_order_16 rfl rfl
    · exact mod_order_17_s x1 μ
def mod_orders_74  (k77 : Int → Int → Mem → Option (Int × Mem)) (x1 x2 : Int) (μ : Mem) : Option (Int × Mem) := k77 x1 (wI (x2 + 1)) μ
theorem mod_orders_74_s {l : Launch} {G : Nv}   {k77 : Int → Int → Mem → Option (Int × Mem)} (hk77 : ∀ (x1 x2 : Int) (μ : Mem) , SR l G S88 mX9_orders (k77 x1 x2 μ) jIM 77 [some (vR 61), some (vI x1), some (vI x2), none, none] [] μ) : ∀ (x1 x2 : Int) (μ : Mem), SR l G S88 mX9_orders (mod_orders_74 k77 x1 x2 μ) jIM 74 [some (vR 61), some (vI x1), some (vI x2), none, none] [] μ := by
  intro x1 x2 μ
  unfold mod_orders_74
  refine sr_iinc (lv' := [some (vR 61), some (vI x1), some (vI (wI (x2 + 1))), none, none]) (pc' := 77) dX9_orders_74 rfl (by decide) rfl rfl ?_
  exact hk77 x1 (wI (x2 + 1)) μ
def mod_orders_39  (k77 : Int → Int → Mem → Option (Int × Mem)) : Nat → Int → Int → Int → Mem → Option (Int × Mem)
  | 0, _, _, _, _ => none
  | n + 1, x1, x2, x4, μ => if (μ 62 0) ≤ x4 then (mod_orders_74 k77 x1 x2 μ) else (if x2 = 0 then ((ld μ 80 5 x4).bind fun v1 => (stx μ 81 5 x4 v1).bind fun μ2 => mod_orders_39 k77 n x1 x2 (wI (x4 + 1)) μ2) else (mod_orders_74 k77 x1 x2 μ))
theorem mod_orders_39_s {l : Launch} {G : Nv}   {k77 : Int → Int → Mem → Option (Int × Mem)} (hk77 : ∀ (x1 x2 : Int) (μ : Mem) , SR l G S88 mX9_orders (k77 x1 x2 μ) jIM 77 [some (vR 61), some (vI x1), some (vI x2), none, none] [] μ) : ∀ (n : Nat) (x1 x2 x4 : Int) (μ : Mem), SR l G S88 mX9_orders (mod_orders_39 k77 n x1 x2 x4 μ) jIM 39 [some (vR 61), some (vI x1), some (vI x2), none, some (vI x4)] [] μ := by
  intro n
  induction n with
  | zero => intro x1 x2 x4 μ; exact sr_none
  | succ n ih =>
    intro x1 x2 x4 μ
    rw [mod_orders_39.eq_2]
    refine sr_iload (pc' := 41) dX9_orders_39 rfl rfl ?_
    refine sr_aload_n (i := 0) (pc' := 42) dX9_orders_41 rfl rfl rfl ?_
    refine sr_getR (k := 0) (b := 62) (pc' := 45) cls_X9 dX9_orders_42 rfl s88_61 rfl (by decide) w_311 ?_
    refine sr_iconst (pc' := 46) dX9_orders_45 rfl (by decide) ?_
    refine sr_ialdc (j := 0) (pc' := 47) dX9_orders_46 rfl s88_62 (by decide) (by decide) (by decide) rfl ?_
    refine sr_icmp_ge (pc' := 50) (tgt := 74) dX9_orders_47 rfl rfl (fun c47 => ?_) (fun c47 => ?_)
    · refine sr_fgt (fgt_s (fgt_s (fgt_s (fgt_s (fgt_n fgt_nil))))) ?_
      exact mod_orders_74_s hk77 x1 x2 μ
    · refine sr_iload_n (i := 2) (pc' := 51) dX9_orders_50 rfl rfl rfl ?_
      refine sr_if_ne (pc' := 54) (tgt := 74) dX9_orders_51 rfl rfl (fun c51 => ?_) (fun c51 => ?_)
      · refine sr_aload_n (i := 0) (pc' := 55) dX9_orders_54 rfl rfl rfl ?_
        refine sr_getR (k := 32) (b := 81) (pc' := 58) cls_X9 dX9_orders_55 rfl s88_61 rfl (by decide) w_400 ?_
        refine sr_iload (pc' := 60) dX9_orders_58 rfl rfl ?_
        refine sr_aload_n (i := 0) (pc' := 61) dX9_orders_60 rfl rfl rfl ?_
        refine sr_getR (k := 30) (b := 80) (pc' := 64) cls_X9 dX9_orders_61 rfl s88_61 rfl (by decide) w_324 ?_
        refine sr_iload (pc' := 66) dX9_orders_64 rfl rfl ?_
        refine sr_iald (pc' := 67) dX9_orders_66 rfl s88_80 (by decide) (fun v1 hv1 hv1a hv1b => ?_)
        refine sr_iast (pc' := 68) dX9_orders_67 rfl s88_81 (by decide) (fun μ2 hμ2 hμ2a hμ2b => ?_)
        refine sr_iinc (lv' := [some (vR 61), some (vI x1), some (vI x2), none, some (vI (wI (x4 + 1)))]) (pc' := 71) dX9_orders_68 rfl (by decide) rfl rfl ?_
        refine sr_goto (pc' := 39) dX9_orders_71 rfl ?_
        exact ih x1 x2 (wI (x4 + 1)) μ2
      · refine sr_fgt (fgt_s (fgt_s (fgt_s (fgt_s (fgt_n fgt_nil))))) ?_
        exact mod_orders_74_s hk77 x1 x2 μ
def mod_orders_77  (k25 : Int → Int → Int → Mem → Option (Int × Mem)) (x1 x2 : Int) (μ : Mem) : Option (Int × Mem) := (mod_nextOrder μ).bind fun u1 => k25 x1 x2 u1.1 u1.2
theorem mod_orders_77_s {l : Launch} {G : Nv}   {k25 : Int → Int → Int → Mem → Option (Int × Mem)} (hk25 : ∀ (x1 x2 x3 : Int) (μ : Mem) , SR l G S88 mX9_orders (k25 x1 x2 x3 μ) jIM 25 [some (vR 61), some (vI x1), some (vI x2), some (vI x3), none] [] μ) : ∀ (x1 x2 : Int) (μ : Mem), SR l G S88 mX9_orders (mod_orders_77 k25 x1 x2 μ) jIM 77 [some (vR 61), some (vI x1), some (vI x2), none, none] [] μ := by
  intro x1 x2 μ
  unfold mod_orders_77
  refine sr_aload_n (i := 0) (pc' := 78) dX9_orders_77 rfl rfl rfl ?_
  refine sr_callV0_IM (pc' := 81) (mod_nextOrder_sp μ) dX9_orders_78 rfl mg_X9_nextOrder mi_X9_nextOrder (Or.inl ⟨9, _, TX9, 40, s88_61, rfl⟩) ⟨Nat.le_of_ble_eq_true rfl, Nat.le_of_ble_eq_true rfl⟩ w_401 (Nat.le_of_ble_eq_true rfl) (fun u1 hu1 hcu1 hzu1 => ?_)
  refine sr_istore_n (i := 3) (lv' := [some (vR 61), some (vI x1), some (vI x2), some (vI u1.1), none]) (pc' := 82) dX9_orders_81 rfl rfl (by decide) rfl ?_
  refine sr_goto (pc' := 25) dX9_orders_82 rfl ?_
  exact hk25 x1 x2 u1.1 u1.2
def mod_orders_25   : Nat → Int → Int → Int → Mem → Option (Int × Mem)
  | 0, _, _, _, _ => none
  | n + 1, x1, x2, x3, μ => if x3 = 0 then (if x1 = 0 then (some (x2, μ)) else (if x2 = 0 then (some ((-4), μ)) else ((ld μ 81 5 (wI (x1 - 10))).bind fun v1 => some (v1, μ)))) else ((mod_isFit μ).bind fun u2 => if u2 = 0 then (mod_orders_77 (mod_orders_25 n) x1 x2 μ) else (mod_orders_39 (mod_orders_77 (mod_orders_25 n)) BIG x1 x2 0 μ))
theorem mod_orders_25_s {l : Launch} {G : Nv}     : ∀ (n : Nat) (x1 x2 x3 : Int) (μ : Mem), SR l G S88 mX9_orders (mod_orders_25 n x1 x2 x3 μ) jIM 25 [some (vR 61), some (vI x1), some (vI x2), some (vI x3), none] [] μ := by
  intro n
  induction n with
  | zero => intro x1 x2 x3 μ; exact sr_none
  | succ n ih =>
    intro x1 x2 x3 μ
    rw [mod_orders_25.eq_2]
    refine sr_iload_n (i := 3) (pc' := 26) dX9_orders_25 rfl rfl rfl ?_
    refine sr_if_eq (pc' := 29) (tgt := 85) dX9_orders_26 rfl rfl (fun c26 => ?_) (fun c26 => ?_)
    · refine sr_iload_n (i := 1) (pc' := 86) dX9_orders_85 rfl rfl rfl ?_
      refine sr_if_ne (pc' := 89) (tgt := 93) dX9_orders_86 rfl rfl (fun c86 => ?_) (fun c86 => ?_)
      · refine sr_iload_n (i := 2) (pc' := 90) dX9_orders_89 rfl rfl rfl ?_
        refine sr_goto (pc' := 111) dX9_orders_90 rfl ?_
        exact sr_iretI dX9_orders_111 rfl rfl
      · refine sr_iload_n (i := 2) (pc' := 94) dX9_orders_93 rfl rfl rfl ?_
        refine sr_if_ne (pc' := 97) (tgt := 102) dX9_orders_94 rfl rfl (fun c94 => ?_) (fun c94 => ?_)
        · refine sr_bipush (pc' := 99) dX9_orders_97 rfl (by decide) (by decide) ?_
          refine sr_goto (pc' := 111) dX9_orders_99 rfl ?_
          exact sr_iretI dX9_orders_111 rfl rfl
        · refine sr_aload_n (i := 0) (pc' := 103) dX9_orders_102 rfl rfl rfl ?_
          refine sr_getR (k := 32) (b := 81) (pc' := 106) cls_X9 dX9_orders_103 rfl s88_61 rfl (by decide) w_400 ?_
          refine sr_iload_n (i := 1) (pc' := 107) dX9_orders_106 rfl rfl rfl ?_
          refine sr_bipush (pc' := 109) dX9_orders_107 rfl (by decide) (by decide) ?_
          refine sr_isub (pc' := 110) dX9_orders_109 rfl ?_
          refine sr_iald (pc' := 111) dX9_orders_110 rfl s88_81 (by decide) (fun v1 hv1 hv1a hv1b => ?_)
          exact sr_iretI dX9_orders_111 rfl rfl
    · refine sr_aload_n (i := 0) (pc' := 30) dX9_orders_29 rfl rfl rfl ?_
      refine sr_callV0_I (pc' := 33) (mod_isFit_sp μ) dX9_orders_30 rfl mg_X9_isFit mi_X9_isFit (Or.inl ⟨9, _, TX9, 40, s88_61, rfl⟩) ⟨Nat.le_of_ble_eq_true rfl, Nat.le_of_ble_eq_true rfl⟩ w_402 (Nat.le_of_ble_eq_true rfl) (fun u2 hu2 hcu2 hzu2 => ?_)
      refine sr_if_eq (pc' := 36) (tgt := 77) dX9_orders_33 rfl rfl (fun c33 => ?_) (fun c33 => ?_)
      · refine sr_fgt (fgt_s (fgt_s (fgt_s (fgt_n (fgt_s fgt_nil))))) ?_
        exact mod_orders_77_s ih x1 x2 μ
      · refine sr_iconst (pc' := 37) dX9_orders_36 rfl (by decide) ?_
        refine sr_istore (lv' := [some (vR 61), some (vI x1), some (vI x2), some (vI x3), some (vI 0)]) (pc' := 39) dX9_orders_37 rfl (by decide) rfl ?_
        refine sr_fgt (fgt_s (fgt_s (fgt_s (fgt_n (fgt_s fgt_nil))))) ?_
        exact mod_orders_39_s (mod_orders_77_s ih) BIG x1 x2 0 μ
def mod_orders_17   (x1 : Int) (μ : Mem) : Option (Int × Mem) := (mod_byNumbers μ).bind fun μ1 => mod_orders_25 BIG x1 0 1 μ1
theorem mod_orders_17_s {l : Launch} {G : Nv}     : ∀ (x1 : Int) (μ : Mem), SR l G S88 mX9_orders (mod_orders_17 x1 μ) jIM 17 [some (vR 61), some (vI x1), none, none, none] [] μ := by
  intro x1 μ
  unfold mod_orders_17
  refine sr_iconst (pc' := 18) dX9_orders_17 rfl (by decide) ?_
  refine sr_istore_n (i := 2) (lv' := [some (vR 61), some (vI x1), some (vI 0), none, none]) (pc' := 19) dX9_orders_18 rfl rfl (by decide) rfl ?_
  refine sr_aload_n (i := 0) (pc' := 20) dX9_orders_19 rfl rfl rfl ?_
  refine sr_callV0_M (pc' := 23) (mod_byNumbers_sp μ) dX9_orders_20 rfl mg_X9_byNumbers mi_X9_byNumbers (Or.inl ⟨9, _, TX9, 40, s88_61, rfl⟩) ⟨Nat.le_of_ble_eq_true rfl, Nat.le_of_ble_eq_true rfl⟩ w_353 (Nat.le_of_ble_eq_true rfl) (fun μ1 hμ1 => ?_)
  refine sr_iconst (pc' := 24) dX9_orders_23 rfl (by decide) ?_
  refine sr_istore_n (i := 3) (lv' := [some (vR 61), some (vI x1), some (vI 0), some (vI 1), none]) (pc' := 25) dX9_orders_24 rfl rfl (by decide) rfl ?_
  exact mod_orders_25_s BIG x1 0 1 μ1
def mod_orders   (x1 : Int) (μ : Mem) : Option (Int × Mem) := if x1 = 0 then (mod_orders_17 x1 μ) else ((mod_isCart μ (wI (x1 - 10))).bind fun u1 => if u1 = 0 then (some ((-1), μ)) else (mod_orders_17 x1 μ))
theorem mod_orders_sp {l : Launch} {G : Nv}   (x1 : Int) (μ : Mem) : SP l G S88 mX9_orders [vR 61, vI x1] μ (mod_orders x1 μ) jIM := by
  refine sp_go (lv := [some (vR 61), some (vI x1), none, none, none]) pn_X9 (Nat.le_of_ble_eq_true rfl) rfl ?_
  unfold mod_orders
  refine sr_iload_n (i := 1) (pc' := 1) dX9_orders_0 rfl rfl rfl ?_
  refine sr_if_eq (pc' := 4) (tgt := 17) dX9_orders_1 rfl rfl (fun c1 => ?_) (fun c1 => ?_)
  · exact mod_orders_17_s x1 μ
  · refine sr_aload_n (i := 0) (pc' := 5) dX9_orders_4 rfl rfl rfl ?_
    refine sr_iload_n (i := 1) (pc' := 6) dX9_orders_5 rfl rfl rfl ?_
    refine sr_bipush (pc' := 8) dX9_orders_6 rfl (by decide) (by decide) ?_
    refine sr_isub (pc' := 9) dX9_orders_8 rfl ?_
    refine sr_callV1_I (pc' := 12) (mod_isCart_sp (wI (x1 - 10)) μ) dX9_orders_9 rfl mg_X9_isCart mi_X9_isCart (Or.inl ⟨9, _, TX9, 40, s88_61, rfl⟩) ⟨Nat.le_of_ble_eq_true rfl, Nat.le_of_ble_eq_true rfl⟩ w_345 (Nat.le_of_ble_eq_true rfl) (fun u1 hu1 hcu1 hzu1 => ?_)
    refine sr_if_ne (pc' := 15) (tgt := 17) dX9_orders_12 rfl rfl (fun c12 => ?_) (fun c12 => ?_)
    · refine sr_iconst (pc' := 16) dX9_orders_15 rfl (by decide) ?_
      exact sr_iretI dX9_orders_16 rfl rfl
    · exact mod_orders_17_s x1 μ
def mod_paid   (x1 x2 : Int) (μ : Mem) : Option (Int × Mem) := (mod_isCart μ x1).bind fun u1 => if u1 = 0 then (some ((-1), μ)) else ((mod_isTime μ x2).bind fun u2 => if u2 = 0 then (some ((-1), μ)) else ((mod_byNumbers μ).bind fun μ3 => (mod_runs x2 μ3).bind fun μ4 => (ld μ4 76 5 x1).bind fun v5 => some (v5, μ4)))
theorem mod_paid_sp {l : Launch} {G : Nv}   (x1 x2 : Int) (μ : Mem) : SP l G S88 mX9_paid [vR 61, vI x1, vI x2] μ (mod_paid x1 x2 μ) jIM := by
  refine sp_go (lv := [some (vR 61), some (vI x1), some (vI x2)]) pn_X9 (Nat.le_of_ble_eq_true rfl) rfl ?_
  unfold mod_paid
  refine sr_aload_n (i := 0) (pc' := 1) dX9_paid_0 rfl rfl rfl ?_
  refine sr_iload_n (i := 1) (pc' := 2) dX9_paid_1 rfl rfl rfl ?_
  refine sr_callV1_I (pc' := 5) (mod_isCart_sp x1 μ) dX9_paid_2 rfl mg_X9_isCart mi_X9_isCart (Or.inl ⟨9, _, TX9, 40, s88_61, rfl⟩) ⟨Nat.le_of_ble_eq_true rfl, Nat.le_of_ble_eq_true rfl⟩ w_345 (Nat.le_of_ble_eq_true rfl) (fun u1 hu1 hcu1 hzu1 => ?_)
  refine sr_if_eq (pc' := 8) (tgt := 15) dX9_paid_5 rfl rfl (fun c5 => ?_) (fun c5 => ?_)
  · refine sr_iconst (pc' := 16) dX9_paid_15 rfl (by decide) ?_
    exact sr_iretI dX9_paid_16 rfl rfl
  · refine sr_iload_n (i := 2) (pc' := 9) dX9_paid_8 rfl rfl rfl ?_
    refine sr_callS1_I (pc' := 12) (mod_isTime_sp x2 μ) dX9_paid_9 rfl mg_X9_isTime ms_X9_isTime ⟨Nat.le_of_ble_eq_true rfl, Nat.le_of_ble_eq_true rfl⟩ w_352 (Nat.le_of_ble_eq_true rfl) (fun u2 hu2 hcu2 hzu2 => ?_)
    refine sr_if_ne (pc' := 15) (tgt := 17) dX9_paid_12 rfl rfl (fun c12 => ?_) (fun c12 => ?_)
    · refine sr_iconst (pc' := 16) dX9_paid_15 rfl (by decide) ?_
      exact sr_iretI dX9_paid_16 rfl rfl
    · refine sr_aload_n (i := 0) (pc' := 18) dX9_paid_17 rfl rfl rfl ?_
      refine sr_callV0_M (pc' := 21) (mod_byNumbers_sp μ) dX9_paid_18 rfl mg_X9_byNumbers mi_X9_byNumbers (Or.inl ⟨9, _, TX9, 40, s88_61, rfl⟩) ⟨Nat.le_of_ble_eq_true rfl, Nat.le_of_ble_eq_true rfl⟩ w_353 (Nat.le_of_ble_eq_true rfl) (fun μ3 hμ3 => ?_)
      refine sr_aload_n (i := 0) (pc' := 22) dX9_paid_21 rfl rfl rfl ?_
      refine sr_iload_n (i := 2) (pc' := 23) dX9_paid_22 rfl rfl rfl ?_
      refine sr_callV1_M (pc' := 26) (mod_runs_sp x2 μ3) dX9_paid_23 rfl mg_X9_runs mi_X9_runs (Or.inl ⟨9, _, TX9, 40, s88_61, rfl⟩) ⟨Nat.le_of_ble_eq_true rfl, Nat.le_of_ble_eq_true rfl⟩ w_328 (Nat.le_of_ble_eq_true rfl) (fun μ4 hμ4 => ?_)
      refine sr_aload_n (i := 0) (pc' := 27) dX9_paid_26 rfl rfl rfl ?_
      refine sr_getR (k := 26) (b := 76) (pc' := 30) cls_X9 dX9_paid_27 rfl s88_61 rfl (by decide) w_315 ?_
      refine sr_iload_n (i := 1) (pc' := 31) dX9_paid_30 rfl rfl rfl ?_
      refine sr_iald (pc' := 32) dX9_paid_31 rfl s88_76 (by decide) (fun v5 hv5 hv5a hv5b => ?_)
      exact sr_iretI dX9_paid_32 rfl rfl
def mod_price   (x1 x2 : Int) (μ : Mem) : Option (Int × Mem) := (mod_areSome μ x1).bind fun u1 => if u1 = 0 then (some ((-1), μ)) else ((mod_in μ x2 0 60).bind fun u2 => if u2 = 0 then (some ((-1), μ)) else ((ld μ 62 555 (wI (160 + x1))).bind fun v3 => (stx μ 62 555 (wI (160 + x1)) x2).bind fun μ4 => some (v3, μ4)))
theorem mod_price_sp {l : Launch} {G : Nv}   (x1 x2 : Int) (μ : Mem) : SP l G S88 mX9_price [vR 61, vI x1, vI x2] μ (mod_price x1 x2 μ) jIM := by
  refine sp_go (lv := [some (vR 61), some (vI x1), some (vI x2), none]) pn_X9 (Nat.le_of_ble_eq_true rfl) rfl ?_
  unfold mod_price
  refine sr_iload_n (i := 1) (pc' := 1) dX9_price_0 rfl rfl rfl ?_
  refine sr_callS1_I (pc' := 4) (mod_areSome_sp x1 μ) dX9_price_1 rfl mg_X9_areSome ms_X9_areSome ⟨Nat.le_of_ble_eq_true rfl, Nat.le_of_ble_eq_true rfl⟩ w_347 (Nat.le_of_ble_eq_true rfl) (fun u1 hu1 hcu1 hzu1 => ?_)
  refine sr_if_eq (pc' := 7) (tgt := 19) dX9_price_4 rfl rfl (fun c4 => ?_) (fun c4 => ?_)
  · refine sr_iconst (pc' := 20) dX9_price_19 rfl (by decide) ?_
    exact sr_iretI dX9_price_20 rfl rfl
  · refine sr_iload_n (i := 2) (pc' := 8) dX9_price_7 rfl rfl rfl ?_
    refine sr_i2l (pc' := 9) dX9_price_8 rfl ?_
    refine sr_lconst (x := 0) (pc' := 10) dX9_price_9 rfl (by decide) rfl ?_
    refine sr_ldc2 (x := 60) (pc' := 13) dX9_price_10 rfl (by decide) w_351 ?_
    refine sr_callS3_I (pc' := 16) (mod_in_sp x2 0 60 μ) dX9_price_13 rfl mg_X9_in ms_X9_in ⟨Nat.le_of_ble_eq_true rfl, Nat.le_of_ble_eq_true rfl⟩ w_336 (Nat.le_of_ble_eq_true rfl) (fun u2 hu2 hcu2 hzu2 => ?_)
    refine sr_if_ne (pc' := 19) (tgt := 21) dX9_price_16 rfl rfl (fun c16 => ?_) (fun c16 => ?_)
    · refine sr_iconst (pc' := 20) dX9_price_19 rfl (by decide) ?_
      exact sr_iretI dX9_price_20 rfl rfl
    · refine sr_aload_n (i := 0) (pc' := 22) dX9_price_21 rfl rfl rfl ?_
      refine sr_getR (k := 0) (b := 62) (pc' := 25) cls_X9 dX9_price_22 rfl s88_61 rfl (by decide) w_311 ?_
      refine sr_sipush (pc' := 28) dX9_price_25 rfl (by decide) (by decide) ?_
      refine sr_iload_n (i := 1) (pc' := 29) dX9_price_28 rfl rfl rfl ?_
      refine sr_iadd (pc' := 30) dX9_price_29 rfl ?_
      refine sr_iald (pc' := 31) dX9_price_30 rfl s88_62 (by decide) (fun v3 hv3 hv3a hv3b => ?_)
      refine sr_istore_n (i := 3) (lv' := [some (vR 61), some (vI x1), some (vI x2), some (vI v3)]) (pc' := 32) dX9_price_31 rfl rfl (by decide) rfl ?_
      refine sr_aload_n (i := 0) (pc' := 33) dX9_price_32 rfl rfl rfl ?_
      refine sr_getR (k := 0) (b := 62) (pc' := 36) cls_X9 dX9_price_33 rfl s88_61 rfl (by decide) w_311 ?_
      refine sr_sipush (pc' := 39) dX9_price_36 rfl (by decide) (by decide) ?_
      refine sr_iload_n (i := 1) (pc' := 40) dX9_price_39 rfl rfl rfl ?_
      refine sr_iadd (pc' := 41) dX9_price_40 rfl ?_
      refine sr_iload_n (i := 2) (pc' := 42) dX9_price_41 rfl rfl rfl ?_
      refine sr_iast (pc' := 43) dX9_price_42 rfl s88_62 (by decide) (fun μ4 hμ4 hμ4a hμ4b => ?_)
      refine sr_iload_n (i := 3) (pc' := 44) dX9_price_43 rfl rfl rfl ?_
      exact sr_iretI dX9_price_44 rfl rfl
def mod_track   (x1 x2 : Int) (μ : Mem) : Option (Int × Mem) := (mod_isYard μ x1).bind fun u1 => if u1 = 0 then (some ((-1), μ)) else ((mod_isWidth μ x2).bind fun u2 => if u2 = 0 then (some ((-1), μ)) else (if (μ 62 168) = 8 then (some ((-3), μ)) else (bnd (wI (169 + (wI (2 * (μ 62 168))))) fun v3 => (stx μ 62 555 v3 x1).bind fun μ4 => (stx μ4 62 555 (wI (v3 + 1)) x2).bind fun μ5 => bnd (mset μ5 62 168 (wI ((μ5 62 168) + 1))) fun μ6 => some (μ6 62 168, μ6))))
theorem mod_track_sp {l : Launch} {G : Nv}   (x1 x2 : Int) (μ : Mem) : SP l G S88 mX9_track [vR 61, vI x1, vI x2] μ (mod_track x1 x2 μ) jIM := by
  refine sp_go (lv := [some (vR 61), some (vI x1), some (vI x2), none]) pn_X9 (Nat.le_of_ble_eq_true rfl) rfl ?_
  unfold mod_track
  refine sr_aload_n (i := 0) (pc' := 1) dX9_track_0 rfl rfl rfl ?_
  refine sr_iload_n (i := 1) (pc' := 2) dX9_track_1 rfl rfl rfl ?_
  refine sr_callV1_I (pc' := 5) (mod_isYard_sp x1 μ) dX9_track_2 rfl mg_X9_isYard mi_X9_isYard (Or.inl ⟨9, _, TX9, 40, s88_61, rfl⟩) ⟨Nat.le_of_ble_eq_true rfl, Nat.le_of_ble_eq_true rfl⟩ w_340 (Nat.le_of_ble_eq_true rfl) (fun u1 hu1 hcu1 hzu1 => ?_)
  refine sr_if_eq (pc' := 8) (tgt := 15) dX9_track_5 rfl rfl (fun c5 => ?_) (fun c5 => ?_)
  · refine sr_iconst (pc' := 16) dX9_track_15 rfl (by decide) ?_
    exact sr_iretI dX9_track_16 rfl rfl
  · refine sr_iload_n (i := 2) (pc' := 9) dX9_track_8 rfl rfl rfl ?_
    refine sr_callS1_I (pc' := 12) (mod_isWidth_sp x2 μ) dX9_track_9 rfl mg_X9_isWidth ms_X9_isWidth ⟨Nat.le_of_ble_eq_true rfl, Nat.le_of_ble_eq_true rfl⟩ w_355 (Nat.le_of_ble_eq_true rfl) (fun u2 hu2 hcu2 hzu2 => ?_)
    refine sr_if_ne (pc' := 15) (tgt := 17) dX9_track_12 rfl rfl (fun c12 => ?_) (fun c12 => ?_)
    · refine sr_iconst (pc' := 16) dX9_track_15 rfl (by decide) ?_
      exact sr_iretI dX9_track_16 rfl rfl
    · refine sr_aload_n (i := 0) (pc' := 18) dX9_track_17 rfl rfl rfl ?_
      refine sr_getR (k := 0) (b := 62) (pc' := 21) cls_X9 dX9_track_18 rfl s88_61 rfl (by decide) w_311 ?_
      refine sr_sipush (pc' := 24) dX9_track_21 rfl (by decide) (by decide) ?_
      refine sr_ialdc (j := 168) (pc' := 25) dX9_track_24 rfl s88_62 (by decide) (by decide) (by decide) rfl ?_
      refine sr_bipush (pc' := 27) dX9_track_25 rfl (by decide) (by decide) ?_
      refine sr_icmp_ne (pc' := 30) (tgt := 33) dX9_track_27 rfl rfl (fun c27 => ?_) (fun c27 => ?_)
      · refine sr_bipush (pc' := 32) dX9_track_30 rfl (by decide) (by decide) ?_
        exact sr_iretI dX9_track_32 rfl rfl
      · refine sr_sipush (pc' := 36) dX9_track_33 rfl (by decide) (by decide) ?_
        refine sr_iconst (pc' := 37) dX9_track_36 rfl (by decide) ?_
        refine sr_aload_n (i := 0) (pc' := 38) dX9_track_37 rfl rfl rfl ?_
        refine sr_getR (k := 0) (b := 62) (pc' := 41) cls_X9 dX9_track_38 rfl s88_61 rfl (by decide) w_311 ?_
        refine sr_sipush (pc' := 44) dX9_track_41 rfl (by decide) (by decide) ?_
        refine sr_ialdc (j := 168) (pc' := 45) dX9_track_44 rfl s88_62 (by decide) (by decide) (by decide) rfl ?_
        refine sr_imul (pc' := 46) dX9_track_45 rfl ?_
        refine sr_iadd (pc' := 47) dX9_track_46 rfl ?_
        refine sr_bnd (fun v3 hv3 => ?_)
        refine sr_istore_n (i := 3) (lv' := [some (vR 61), some (vI x1), some (vI x2), some (vI v3)]) (pc' := 48) dX9_track_47 rfl rfl (by decide) rfl ?_
        refine sr_aload_n (i := 0) (pc' := 49) dX9_track_48 rfl rfl rfl ?_
        refine sr_getR (k := 0) (b := 62) (pc' := 52) cls_X9 dX9_track_49 rfl s88_61 rfl (by decide) w_311 ?_
        refine sr_iload_n (i := 3) (pc' := 53) dX9_track_52 rfl rfl rfl ?_
        refine sr_iload_n (i := 1) (pc' := 54) dX9_track_53 rfl rfl rfl ?_
        refine sr_iast (pc' := 55) dX9_track_54 rfl s88_62 (by decide) (fun μ4 hμ4 hμ4a hμ4b => ?_)
        refine sr_aload_n (i := 0) (pc' := 56) dX9_track_55 rfl rfl rfl ?_
        refine sr_getR (k := 0) (b := 62) (pc' := 59) cls_X9 dX9_track_56 rfl s88_61 rfl (by decide) w_311 ?_
        refine sr_iload_n (i := 3) (pc' := 60) dX9_track_59 rfl rfl rfl ?_
        refine sr_iconst (pc' := 61) dX9_track_60 rfl (by decide) ?_
        refine sr_iadd (pc' := 62) dX9_track_61 rfl ?_
        refine sr_iload_n (i := 2) (pc' := 63) dX9_track_62 rfl rfl rfl ?_
        refine sr_iast (pc' := 64) dX9_track_63 rfl s88_62 (by decide) (fun μ5 hμ5 hμ5a hμ5b => ?_)
        refine sr_aload_n (i := 0) (pc' := 65) dX9_track_64 rfl rfl rfl ?_
        refine sr_getR (k := 0) (b := 62) (pc' := 68) cls_X9 dX9_track_65 rfl s88_61 rfl (by decide) w_311 ?_
        refine sr_sipush (pc' := 71) dX9_track_68 rfl (by decide) (by decide) ?_
        refine sr_dup2 (pc' := 72) dX9_track_71 rfl rfl rfl ?_
        refine sr_ialdc (j := 168) (pc' := 73) dX9_track_72 rfl s88_62 (by decide) (by decide) (by decide) rfl ?_
        refine sr_iconst (pc' := 74) dX9_track_73 rfl (by decide) ?_
        refine sr_iadd (pc' := 75) dX9_track_74 rfl ?_
        refine sr_iastc (j := 168) (pc' := 76) dX9_track_75 rfl s88_62 (by decide) (by decide) (by decide) rfl (fun μ6 hμ6 => ?_)
        refine sr_aload_n (i := 0) (pc' := 77) dX9_track_76 rfl rfl rfl ?_
        refine sr_getR (k := 0) (b := 62) (pc' := 80) cls_X9 dX9_track_77 rfl s88_61 rfl (by decide) w_311 ?_
        refine sr_sipush (pc' := 83) dX9_track_80 rfl (by decide) (by decide) ?_
        refine sr_ialdc (j := 168) (pc' := 84) dX9_track_83 rfl s88_62 (by decide) (by decide) (by decide) rfl ?_
        exact sr_iretI dX9_track_84 rfl rfl
def mod_read_136  (k57 : Int → Int → Int → Int → Int → Int → Int → Int → Int → Mem → Option (Int × Mem)) (x1 x2 x3 x4 x5 x7 x8 x9 s0 : Int) (μ : Mem) : Option (Int × Mem) := k57 x1 x2 x3 x4 x5 s0 x7 x8 (wI (x9 + 1)) μ
theorem mod_read_136_s {l : Launch} {G : Nv}   {k57 : Int → Int → Int → Int → Int → Int → Int → Int → Int → Mem → Option (Int × Mem)} (hk57 : ∀ (x1 x2 x3 x4 x5 x6 x7 x8 x9 : Int) (μ : Mem) , SR l G S88 mX9_read (k57 x1 x2 x3 x4 x5 x6 x7 x8 x9 μ) jIM 57 [some (vR 61), some (vI x1), some (vI x2), some (vI x3), some (vI x4), some (vI x5), some (vI x6), some (vI x7), some (vI x8), some (vI x9), none, none] [] μ) : ∀ (x1 x2 x3 x4 x5 x7 x8 x9 s0 : Int) (μ : Mem), SR l G S88 mX9_read (mod_read_136 k57 x1 x2 x3 x4 x5 x7 x8 x9 s0 μ) jIM 136 [some (vR 61), some (vI x1), some (vI x2), some (vI x3), some (vI x4), some (vI x5), none, some (vI x7), some (vI x8), some (vI x9), none, none] [vI s0] μ := by
  intro x1 x2 x3 x4 x5 x7 x8 x9 s0 μ
  unfold mod_read_136
  refine sr_istore (lv' := [some (vR 61), some (vI x1), some (vI x2), some (vI x3), some (vI x4), some (vI x5), some (vI s0), some (vI x7), some (vI x8), some (vI x9), none, none]) (pc' := 138) dX9_read_136 rfl (by decide) rfl ?_
  refine sr_iinc (lv' := [some (vR 61), some (vI x1), some (vI x2), some (vI x3), some (vI x4), some (vI x5), some (vI s0), some (vI x7), some (vI x8), some (vI (wI (x9 + 1))), none, none]) (pc' := 141) dX9_read_138 rfl (by decide) rfl rfl ?_
  refine sr_goto (pc' := 57) dX9_read_141 rfl ?_
  exact hk57 x1 x2 x3 x4 x5 s0 x7 x8 (wI (x9 + 1)) μ
def mod_read_204  (k42 : Int → Int → Int → Int → Int → Int → Int → Int → Mem → Option (Int × Mem)) (x1 x2 x3 x4 x5 x6 x7 x8 : Int) (μ : Mem) : Option (Int × Mem) := k42 x1 x2 x3 x4 x5 x6 x7 (wI (x8 + 1)) μ
theorem mod_read_204_s {l : Launch} {G : Nv}   {k42 : Int → Int → Int → Int → Int → Int → Int → Int → Mem → Option (Int × Mem)} (hk42 : ∀ (x1 x2 x3 x4 x5 x6 x7 x8 : Int) (μ : Mem) , SR l G S88 mX9_read (k42 x1 x2 x3 x4 x5 x6 x7 x8 μ) jIM 42 [some (vR 61), some (vI x1), some (vI x2), some (vI x3), some (vI x4), some (vI x5), some (vI x6), some (vI x7), some (vI x8), none, none, none] [] μ) : ∀ (x1 x2 x3 x4 x5 x6 x7 x8 : Int) (μ : Mem), SR l G S88 mX9_read (mod_read_204 k42 x1 x2 x3 x4 x5 x6 x7 x8 μ) jIM 204 [some (vR 61), some (vI x1), some (vI x2), some (vI x3), some (vI x4), some (vI x5), some (vI x6), some (vI x7), some (vI x8), none, none, none] [] μ := by
  intro x1 x2 x3 x4 x5 x6 x7 x8 μ
  unfold mod_read_204
  refine sr_iinc (lv' := [some (vR 61), some (vI x1), some (vI x2), some (vI x3), some (vI x4), some (vI x5), some (vI x6), some (vI x7), some (vI (wI (x8 + 1))), none, none, none]) (pc' := 207) dX9_read_204 rfl (by decide) rfl rfl ?_
  refine sr_goto (pc' := 42) dX9_read_207 rfl ?_
  exact hk42 x1 x2 x3 x4 x5 x6 x7 (wI (x8 + 1)) μ
def mod_read_144  (k42 : Int → Int → Int → Int → Int → Int → Int → Int → Mem → Option (Int × Mem)) (x1 x2 x3 x4 x5 x6 x7 x8 : Int) (μ : Mem) : Option (Int × Mem) := if x6 = 0 then (bnd (wI ((wI ((wI (40 * x1)) + x3)) + (wI (2 * x8)))) fun v1 => (ld μ 87 160 v1).bind fun v2 => (ld μ 87 160 (wI (v1 + 1))).bind fun v3 => (mod_track v2 v3 μ).bind fun u4 => if 0 ≤ u4.1 then (mod_read_204 k42 x1 x2 x3 x4 x5 x6 (wI (x7 + 1)) x8 u4.2) else (bnd (mset u4.2 62 168 x5) fun μ5 => some (wI ((-20) - x8), μ5))) else (mod_read_204 k42 x1 x2 x3 x4 x5 x6 x7 x8 μ)
theorem mod_read_144_s {l : Launch} {G : Nv}   {k42 : Int → Int → Int → Int → Int → Int → Int → Int → Mem → Option (Int × Mem)} (hk42 : ∀ (x1 x2 x3 x4 x5 x6 x7 x8 : Int) (μ : Mem) , SR l G S88 mX9_read (k42 x1 x2 x3 x4 x5 x6 x7 x8 μ) jIM 42 [some (vR 61), some (vI x1), some (vI x2), some (vI x3), some (vI x4), some (vI x5), some (vI x6), some (vI x7), some (vI x8), none, none, none] [] μ) : ∀ (x1 x2 x3 x4 x5 x6 x7 x8 : Int) (μ : Mem), SR l G S88 mX9_read (mod_read_144 k42 x1 x2 x3 x4 x5 x6 x7 x8 μ) jIM 144 [some (vR 61), some (vI x1), some (vI x2), some (vI x3), some (vI x4), some (vI x5), some (vI x6), some (vI x7), some (vI x8), none, none, none] [] μ := by
  intro x1 x2 x3 x4 x5 x6 x7 x8 μ
  unfold mod_read_144
  refine sr_iload (pc' := 146) dX9_read_144 rfl rfl ?_
  refine sr_if_ne (pc' := 149) (tgt := 204) dX9_read_146 rfl rfl (fun c146 => ?_) (fun c146 => ?_)
  · refine sr_bipush (pc' := 151) dX9_read_149 rfl (by decide) (by decide) ?_
    refine sr_iload_n (i := 1) (pc' := 152) dX9_read_151 rfl rfl rfl ?_
    refine sr_imul (pc' := 153) dX9_read_152 rfl ?_
    refine sr_iload_n (i := 3) (pc' := 154) dX9_read_153 rfl rfl rfl ?_
    refine sr_iadd (pc' := 155) dX9_read_154 rfl ?_
    refine sr_iconst (pc' := 156) dX9_read_155 rfl (by decide) ?_
    refine sr_iload (pc' := 158) dX9_read_156 rfl rfl ?_
    refine sr_imul (pc' := 159) dX9_read_158 rfl ?_
    refine sr_iadd (pc' := 160) dX9_read_159 rfl ?_
    refine sr_bnd (fun v1 hv1 => ?_)
    refine sr_istore (lv' := [some (vR 61), some (vI x1), some (vI x2), some (vI x3), some (vI x4), some (vI x5), some (vI x6), some (vI x7), some (vI x8), some (vI v1), none, none]) (pc' := 162) dX9_read_160 rfl (by decide) rfl ?_
    refine sr_aload_n (i := 0) (pc' := 163) dX9_read_162 rfl rfl rfl ?_
    refine sr_aload_n (i := 0) (pc' := 164) dX9_read_163 rfl rfl rfl ?_
    refine sr_getR (k := 38) (b := 87) (pc' := 167) cls_X9 dX9_read_164 rfl s88_61 rfl (by decide) w_386 ?_
    refine sr_iload (pc' := 169) dX9_read_167 rfl rfl ?_
    refine sr_iald (pc' := 170) dX9_read_169 rfl s88_87 (by decide) (fun v2 hv2 hv2a hv2b => ?_)
    refine sr_aload_n (i := 0) (pc' := 171) dX9_read_170 rfl rfl rfl ?_
    refine sr_getR (k := 38) (b := 87) (pc' := 174) cls_X9 dX9_read_171 rfl s88_61 rfl (by decide) w_386 ?_
    refine sr_iload (pc' := 176) dX9_read_174 rfl rfl ?_
    refine sr_iconst (pc' := 177) dX9_read_176 rfl (by decide) ?_
    refine sr_iadd (pc' := 178) dX9_read_177 rfl ?_
    refine sr_iald (pc' := 179) dX9_read_178 rfl s88_87 (by decide) (fun v3 hv3 hv3a hv3b => ?_)
    refine sr_callV2_IM (pc' := 182) (mod_track_sp v2 v3 μ) dX9_read_179 rfl mg_X9_track mi_X9_track (Or.inl ⟨9, _, TX9, 40, s88_61, rfl⟩) ⟨Nat.le_of_ble_eq_true rfl, Nat.le_of_ble_eq_true rfl⟩ w_403 (Nat.le_of_ble_eq_true rfl) (fun u4 hu4 hcu4 hzu4 => ?_)
    refine sr_if_ge (pc' := 185) (tgt := 201) dX9_read_182 rfl rfl (fun c182 => ?_) (fun c182 => ?_)
    · refine sr_iinc (lv' := [some (vR 61), some (vI x1), some (vI x2), some (vI x3), some (vI x4), some (vI x5), some (vI x6), some (vI (wI (x7 + 1))), some (vI x8), some (vI v1), none, none]) (pc' := 204) dX9_read_201 rfl (by decide) rfl rfl ?_
      refine sr_fgt (fgt_s (fgt_s (fgt_s (fgt_s (fgt_s (fgt_s (fgt_s (fgt_s (fgt_s (fgt_n (fgt_s (fgt_s fgt_nil)))))))))))) ?_
      exact mod_read_204_s hk42 x1 x2 x3 x4 x5 x6 (wI (x7 + 1)) x8 u4.2
    · refine sr_aload_n (i := 0) (pc' := 186) dX9_read_185 rfl rfl rfl ?_
      refine sr_getR (k := 0) (b := 62) (pc' := 189) cls_X9 dX9_read_186 rfl s88_61 rfl (by decide) w_311 ?_
      refine sr_sipush (pc' := 192) dX9_read_189 rfl (by decide) (by decide) ?_
      refine sr_iload (pc' := 194) dX9_read_192 rfl rfl ?_
      refine sr_iastc (j := 168) (pc' := 195) dX9_read_194 rfl s88_62 (by decide) (by decide) (by decide) rfl (fun μ5 hμ5 => ?_)
      refine sr_bipush (pc' := 197) dX9_read_195 rfl (by decide) (by decide) ?_
      refine sr_iload (pc' := 199) dX9_read_197 rfl rfl ?_
      refine sr_isub (pc' := 200) dX9_read_199 rfl ?_
      exact sr_iretI dX9_read_200 rfl rfl
  · exact mod_read_204_s hk42 x1 x2 x3 x4 x5 x6 x7 x8 μ
def mod_read_57  (k42 : Int → Int → Int → Int → Int → Int → Int → Int → Mem → Option (Int × Mem)) : Nat → Int → Int → Int → Int → Int → Int → Int → Int → Int → Mem → Option (Int × Mem)
  | 0, _, _, _, _, _, _, _, _, _, _ => none
  | n + 1, x1, x2, x3, x4, x5, x6, x7, x8, x9, μ => if 2 ≤ x9 then (mod_read_144 k42 x1 x2 x3 x4 x5 x6 x7 x8 μ) else (if x6 = 0 then (bnd (wL ((wL (x3 + (wI (2 * x8)))) + x9)) fun v1 => (ld μ 85 4 x1).bind fun v2 => if v2 = (-4) then (mod_read_136 (mod_read_57 k42 n) x1 x2 x3 x4 x5 x7 x8 x9 1 μ) else ((ld μ 85 4 x1).bind fun v3 => if v3 = x2 then (if (lCmp v1 0) < 0 then (mod_read_136 (mod_read_57 k42 n) x1 x2 x3 x4 x5 x7 x8 x9 2 μ) else ((ld μ 86 4 x1).bind fun v4 => if (lCmp v1 v4) < 0 then (mod_read_136 (mod_read_57 k42 n) x1 x2 x3 x4 x5 x7 x8 x9 0 μ) else (mod_read_136 (mod_read_57 k42 n) x1 x2 x3 x4 x5 x7 x8 x9 2 μ))) else (mod_read_136 (mod_read_57 k42 n) x1 x2 x3 x4 x5 x7 x8 x9 3 μ))) else (mod_read_144 k42 x1 x2 x3 x4 x5 x6 x7 x8 μ))
theorem mod_read_57_s {l : Launch} {G : Nv}   {k42 : Int → Int → Int → Int → Int → Int → Int → Int → Mem → Option (Int × Mem)} (hk42 : ∀ (x1 x2 x3 x4 x5 x6 x7 x8 : Int) (μ : Mem) , SR l G S88 mX9_read (k42 x1 x2 x3 x4 x5 x6 x7 x8 μ) jIM 42 [some (vR 61), some (vI x1), some (vI x2), some (vI x3), some (vI x4), some (vI x5), some (vI x6), some (vI x7), some (vI x8), none, none, none] [] μ) : ∀ (n : Nat) (x1 x2 x3 x4 x5 x6 x7 x8 x9 : Int) (μ : Mem), SR l G S88 mX9_read (mod_read_57 k42 n x1 x2 x3 x4 x5 x6 x7 x8 x9 μ) jIM 57 [some (vR 61), some (vI x1), some (vI x2), some (vI x3), some (vI x4), some (vI x5), some (vI x6), some (vI x7), some (vI x8), some (vI x9), none, none] [] μ := by
  intro n
  induction n with
  | zero => intro x1 x2 x3 x4 x5 x6 x7 x8 x9 μ; exact sr_none
  | succ n ih =>
    intro x1 x2 x3 x4 x5 x6 x7 x8 x9 μ
    rw [mod_read_57.eq_2]
    refine sr_iload (pc' := 59) dX9_read_57 rfl rfl ?_
    refine sr_iconst (pc' := 60) dX9_read_59 rfl (by decide) ?_
    refine sr_icmp_ge (pc' := 63) (tgt := 144) dX9_read_60 rfl rfl (fun c60 => ?_) (fun c60 => ?_)
    · refine sr_fgt (fgt_s (fgt_s (fgt_s (fgt_s (fgt_s (fgt_s (fgt_s (fgt_s (fgt_s (fgt_n (fgt_s (fgt_s fgt_nil)))))))))))) ?_
      exact mod_read_144_s hk42 x1 x2 x3 x4 x5 x6 x7 x8 μ
    · refine sr_iload (pc' := 65) dX9_read_63 rfl rfl ?_
      refine sr_if_ne (pc' := 68) (tgt := 144) dX9_read_65 rfl rfl (fun c65 => ?_) (fun c65 => ?_)
      · refine sr_iload_n (i := 3) (pc' := 69) dX9_read_68 rfl rfl rfl ?_
        refine sr_i2l (pc' := 70) dX9_read_69 rfl ?_
        refine sr_iconst (pc' := 71) dX9_read_70 rfl (by decide) ?_
        refine sr_iload (pc' := 73) dX9_read_71 rfl rfl ?_
        refine sr_imul (pc' := 74) dX9_read_73 rfl ?_
        refine sr_i2l (pc' := 75) dX9_read_74 rfl ?_
        refine sr_ladd (pc' := 76) dX9_read_75 rfl ?_
        refine sr_iload (pc' := 78) dX9_read_76 rfl rfl ?_
        refine sr_i2l (pc' := 79) dX9_read_78 rfl ?_
        refine sr_ladd (pc' := 80) dX9_read_79 rfl ?_
        refine sr_bndL (fun v1 hv1 => ?_)
        refine sr_lstore (lv' := [some (vR 61), some (vI x1), some (vI x2), some (vI x3), some (vI x4), some (vI x5), some (vI x6), some (vI x7), some (vI x8), some (vI x9), some (vL v1), none]) (pc' := 82) dX9_read_80 rfl (by decide) rfl ?_
        refine sr_aload_n (i := 0) (pc' := 83) dX9_read_82 rfl rfl rfl ?_
        refine sr_getR (k := 36) (b := 85) (pc' := 86) cls_X9 dX9_read_83 rfl s88_61 rfl (by decide) w_349 ?_
        refine sr_iload_n (i := 1) (pc' := 87) dX9_read_86 rfl rfl rfl ?_
        refine sr_iald (pc' := 88) dX9_read_87 rfl s88_85 (by decide) (fun v2 hv2 hv2a hv2b => ?_)
        refine sr_bipush (pc' := 90) dX9_read_88 rfl (by decide) (by decide) ?_
        refine sr_icmp_ne (pc' := 93) (tgt := 97) dX9_read_90 rfl rfl (fun c90 => ?_) (fun c90 => ?_)
        · refine sr_iconst (pc' := 94) dX9_read_93 rfl (by decide) ?_
          refine sr_goto (pc' := 136) dX9_read_94 rfl ?_
          refine sr_fgt (fgt_s (fgt_s (fgt_s (fgt_s (fgt_s (fgt_s (fgt_n (fgt_s (fgt_s (fgt_s (fgt_n (fgt_s fgt_nil)))))))))))) ?_
          exact mod_read_136_s ih x1 x2 x3 x4 x5 x7 x8 x9 1 μ
        · refine sr_aload_n (i := 0) (pc' := 98) dX9_read_97 rfl rfl rfl ?_
          refine sr_getR (k := 36) (b := 85) (pc' := 101) cls_X9 dX9_read_98 rfl s88_61 rfl (by decide) w_349 ?_
          refine sr_iload_n (i := 1) (pc' := 102) dX9_read_101 rfl rfl rfl ?_
          refine sr_iald (pc' := 103) dX9_read_102 rfl s88_85 (by decide) (fun v3 hv3 hv3a hv3b => ?_)
          refine sr_iload_n (i := 2) (pc' := 104) dX9_read_103 rfl rfl rfl ?_
          refine sr_icmp_eq (pc' := 107) (tgt := 111) dX9_read_104 rfl rfl (fun c104 => ?_) (fun c104 => ?_)
          · refine sr_lload (pc' := 113) dX9_read_111 rfl rfl ?_
            refine sr_lconst (x := 0) (pc' := 114) dX9_read_113 rfl (by decide) rfl ?_
            refine sr_lcmp (pc' := 115) dX9_read_114 rfl ?_
            refine sr_if_lt (pc' := 118) (tgt := 131) dX9_read_115 rfl rfl (fun c115 => ?_) (fun c115 => ?_)
            · refine sr_iconst (pc' := 132) dX9_read_131 rfl (by decide) ?_
              refine sr_goto (pc' := 136) dX9_read_132 rfl ?_
              refine sr_fgt (fgt_s (fgt_s (fgt_s (fgt_s (fgt_s (fgt_s (fgt_n (fgt_s (fgt_s (fgt_s (fgt_n (fgt_s fgt_nil)))))))))))) ?_
              exact mod_read_136_s ih x1 x2 x3 x4 x5 x7 x8 x9 2 μ
            · refine sr_lload (pc' := 120) dX9_read_118 rfl rfl ?_
              refine sr_aload_n (i := 0) (pc' := 121) dX9_read_120 rfl rfl rfl ?_
              refine sr_getR (k := 37) (b := 86) (pc' := 124) cls_X9 dX9_read_121 rfl s88_61 rfl (by decide) w_350 ?_
              refine sr_iload_n (i := 1) (pc' := 125) dX9_read_124 rfl rfl rfl ?_
              refine sr_iald (pc' := 126) dX9_read_125 rfl s88_86 (by decide) (fun v4 hv4 hv4a hv4b => ?_)
              refine sr_i2l (pc' := 127) dX9_read_126 rfl ?_
              refine sr_lcmp (pc' := 128) dX9_read_127 rfl ?_
              refine sr_if_lt (pc' := 131) (tgt := 135) dX9_read_128 rfl rfl (fun c128 => ?_) (fun c128 => ?_)
              · refine sr_iconst (pc' := 136) dX9_read_135 rfl (by decide) ?_
                refine sr_fgt (fgt_s (fgt_s (fgt_s (fgt_s (fgt_s (fgt_s (fgt_n (fgt_s (fgt_s (fgt_s (fgt_n (fgt_s fgt_nil)))))))))))) ?_
                exact mod_read_136_s ih x1 x2 x3 x4 x5 x7 x8 x9 0 μ
              · refine sr_iconst (pc' := 132) dX9_read_131 rfl (by decide) ?_
                refine sr_goto (pc' := 136) dX9_read_132 rfl ?_
                refine sr_fgt (fgt_s (fgt_s (fgt_s (fgt_s (fgt_s (fgt_s (fgt_n (fgt_s (fgt_s (fgt_s (fgt_n (fgt_s fgt_nil)))))))))))) ?_
                exact mod_read_136_s ih x1 x2 x3 x4 x5 x7 x8 x9 2 μ
          · refine sr_iconst (pc' := 108) dX9_read_107 rfl (by decide) ?_
            refine sr_goto (pc' := 136) dX9_read_108 rfl ?_
            refine sr_fgt (fgt_s (fgt_s (fgt_s (fgt_s (fgt_s (fgt_s (fgt_n (fgt_s (fgt_s (fgt_s (fgt_n (fgt_s fgt_nil)))))))))))) ?_
            exact mod_read_136_s ih x1 x2 x3 x4 x5 x7 x8 x9 3 μ
      · refine sr_fgt (fgt_s (fgt_s (fgt_s (fgt_s (fgt_s (fgt_s (fgt_s (fgt_s (fgt_s (fgt_n (fgt_s (fgt_s fgt_nil)))))))))))) ?_
        exact mod_read_144_s hk42 x1 x2 x3 x4 x5 x6 x7 x8 μ
def mod_read_210   (x6 x7 : Int) (μ : Mem) : Option (Int × Mem) := bnd (mset μ 61 39 x6) fun μ1 => some (x7, μ1)
theorem mod_read_210_s {l : Launch} {G : Nv}     : ∀ (x6 x7 : Int) (μ : Mem), SR l G S88 mX9_read (mod_read_210 x6 x7 μ) jIM 210 [some (vR 61), none, none, none, none, none, some (vI x6), some (vI x7), none, none, none, none] [] μ := by
  intro x6 x7 μ
  unfold mod_read_210
  refine sr_aload_n (i := 0) (pc' := 211) dX9_read_210 rfl rfl rfl ?_
  refine sr_iload (pc' := 213) dX9_read_211 rfl rfl ?_
  refine sr_putI (k := 39) (pc' := 216) cls_X9 dX9_read_213 rfl s88_61 rfl (by decide) w_404 rfl rfl (fun μ1 hμ1 => ?_)
  refine sr_iload (pc' := 218) dX9_read_216 rfl rfl ?_
  exact sr_iretI dX9_read_218 rfl rfl
def mod_read_42   : Nat → Int → Int → Int → Int → Int → Int → Int → Int → Mem → Option (Int × Mem)
  | 0, _, _, _, _, _, _, _, _, _ => none
  | n + 1, x1, x2, x3, x4, x5, x6, x7, x8, μ => if x4 ≤ x8 then (mod_read_210 x6 x7 μ) else (if x6 = 0 then (mod_read_57 (mod_read_42 n) BIG x1 x2 x3 x4 x5 x6 x7 x8 0 μ) else (mod_read_210 x6 x7 μ))
theorem mod_read_42_s {l : Launch} {G : Nv}     : ∀ (n : Nat) (x1 x2 x3 x4 x5 x6 x7 x8 : Int) (μ : Mem), SR l G S88 mX9_read (mod_read_42 n x1 x2 x3 x4 x5 x6 x7 x8 μ) jIM 42 [some (vR 61), some (vI x1), some (vI x2), some (vI x3), some (vI x4), some (vI x5), some (vI x6), some (vI x7), some (vI x8), none, none, none] [] μ := by
  intro n
  induction n with
  | zero => intro x1 x2 x3 x4 x5 x6 x7 x8 μ; exact sr_none
  | succ n ih =>
    intro x1 x2 x3 x4 x5 x6 x7 x8 μ
    rw [mod_read_42.eq_2]
    refine sr_iload (pc' := 44) dX9_read_42 rfl rfl ?_
    refine sr_iload (pc' := 46) dX9_read_44 rfl rfl ?_
    refine sr_icmp_ge (pc' := 49) (tgt := 210) dX9_read_46 rfl rfl (fun c46 => ?_) (fun c46 => ?_)
    · refine sr_fgt (fgt_s (fgt_n (fgt_n (fgt_n (fgt_n (fgt_n (fgt_s (fgt_s (fgt_n (fgt_s (fgt_s (fgt_s fgt_nil)))))))))))) ?_
      exact mod_read_210_s x6 x7 μ
    · refine sr_iload (pc' := 51) dX9_read_49 rfl rfl ?_
      refine sr_if_ne (pc' := 54) (tgt := 210) dX9_read_51 rfl rfl (fun c51 => ?_) (fun c51 => ?_)
      · refine sr_iconst (pc' := 55) dX9_read_54 rfl (by decide) ?_
        refine sr_istore (lv' := [some (vR 61), some (vI x1), some (vI x2), some (vI x3), some (vI x4), some (vI x5), some (vI x6), some (vI x7), some (vI x8), some (vI 0), none, none]) (pc' := 57) dX9_read_55 rfl (by decide) rfl ?_
        exact mod_read_57_s ih BIG x1 x2 x3 x4 x5 x6 x7 x8 0 μ
      · refine sr_fgt (fgt_s (fgt_n (fgt_n (fgt_n (fgt_n (fgt_n (fgt_s (fgt_s (fgt_n (fgt_s (fgt_s (fgt_s fgt_nil)))))))))))) ?_
        exact mod_read_210_s x6 x7 μ
def mod_read   (x1 x2 x3 x4 : Int) (μ : Mem) : Option (Int × Mem) := (mod_isSheet μ x1 x2).bind fun u1 => if u1 = 0 then (some ((-1), μ)) else ((mod_in μ x4 0 8).bind fun u2 => if u2 = 0 then (some ((-1), μ)) else (bnd (μ 62 168) fun v3 => mod_read_42 BIG x1 x2 x3 x4 v3 0 0 0 μ))
theorem mod_read_sp {l : Launch} {G : Nv}   (x1 x2 x3 x4 : Int) (μ : Mem) : SP l G S88 mX9_read [vR 61, vI x1, vI x2, vI x3, vI x4] μ (mod_read x1 x2 x3 x4 μ) jIM := by
  refine sp_go (lv := [some (vR 61), some (vI x1), some (vI x2), some (vI x3), some (vI x4), none, none, none, none, none, none, none]) pn_X9 (Nat.le_of_ble_eq_true rfl) rfl ?_
  unfold mod_read
  refine sr_iload_n (i := 1) (pc' := 1) dX9_read_0 rfl rfl rfl ?_
  refine sr_iload_n (i := 2) (pc' := 2) dX9_read_1 rfl rfl rfl ?_
  refine sr_callS2_I (pc' := 5) (mod_isSheet_sp x1 x2 μ) dX9_read_2 rfl mg_X9_isSheet ms_X9_isSheet ⟨Nat.le_of_ble_eq_true rfl, Nat.le_of_ble_eq_true rfl⟩ w_385 (Nat.le_of_ble_eq_true rfl) (fun u1 hu1 hcu1 hzu1 => ?_)
  refine sr_if_eq (pc' := 8) (tgt := 21) dX9_read_5 rfl rfl (fun c5 => ?_) (fun c5 => ?_)
  · refine sr_iconst (pc' := 22) dX9_read_21 rfl (by decide) ?_
    exact sr_iretI dX9_read_22 rfl rfl
  · refine sr_iload (pc' := 10) dX9_read_8 rfl rfl ?_
    refine sr_i2l (pc' := 11) dX9_read_10 rfl ?_
    refine sr_lconst (x := 0) (pc' := 12) dX9_read_11 rfl (by decide) rfl ?_
    refine sr_ldc2 (x := 8) (pc' := 15) dX9_read_12 rfl (by decide) w_405 ?_
    refine sr_callS3_I (pc' := 18) (mod_in_sp x4 0 8 μ) dX9_read_15 rfl mg_X9_in ms_X9_in ⟨Nat.le_of_ble_eq_true rfl, Nat.le_of_ble_eq_true rfl⟩ w_336 (Nat.le_of_ble_eq_true rfl) (fun u2 hu2 hcu2 hzu2 => ?_)
    refine sr_if_ne (pc' := 21) (tgt := 23) dX9_read_18 rfl rfl (fun c18 => ?_) (fun c18 => ?_)
    · refine sr_iconst (pc' := 22) dX9_read_21 rfl (by decide) ?_
      exact sr_iretI dX9_read_22 rfl rfl
    · refine sr_aload_n (i := 0) (pc' := 24) dX9_read_23 rfl rfl rfl ?_
      refine sr_getR (k := 0) (b := 62) (pc' := 27) cls_X9 dX9_read_24 rfl s88_61 rfl (by decide) w_311 ?_
      refine sr_sipush (pc' := 30) dX9_read_27 rfl (by decide) (by decide) ?_
      refine sr_ialdc (j := 168) (pc' := 31) dX9_read_30 rfl s88_62 (by decide) (by decide) (by decide) rfl ?_
      refine sr_bnd (fun v3 hv3 => ?_)
      refine sr_istore (lv' := [some (vR 61), some (vI x1), some (vI x2), some (vI x3), some (vI x4), some (vI v3), none, none, none, none, none, none]) (pc' := 33) dX9_read_31 rfl (by decide) rfl ?_
      refine sr_iconst (pc' := 34) dX9_read_33 rfl (by decide) ?_
      refine sr_istore (lv' := [some (vR 61), some (vI x1), some (vI x2), some (vI x3), some (vI x4), some (vI v3), some (vI 0), none, none, none, none, none]) (pc' := 36) dX9_read_34 rfl (by decide) rfl ?_
      refine sr_iconst (pc' := 37) dX9_read_36 rfl (by decide) ?_
      refine sr_istore (lv' := [some (vR 61), some (vI x1), some (vI x2), some (vI x3), some (vI x4), some (vI v3), some (vI 0), some (vI 0), none, none, none, none]) (pc' := 39) dX9_read_37 rfl (by decide) rfl ?_
      refine sr_iconst (pc' := 40) dX9_read_39 rfl (by decide) ?_
      refine sr_istore (lv' := [some (vR 61), some (vI x1), some (vI x2), some (vI x3), some (vI x4), some (vI v3), some (vI 0), some (vI 0), some (vI 0), none, none, none]) (pc' := 42) dX9_read_40 rfl (by decide) rfl ?_
      exact mod_read_42_s BIG x1 x2 x3 x4 v3 0 0 0 μ
def mod_readNumber   (x1 x2 : Int) (μ : Mem) : Option (Int × Mem) := (mod_looked x1 x2 μ).bind fun u1 => (mod_next u1.2).bind fun μ2 => some (u1.1, μ2)
theorem mod_readNumber_sp {l : Launch} {G : Nv}   (x1 x2 : Int) (μ : Mem) : SP l G S88 mX9_readNumber [vR 61, vI x1, vI x2] μ (mod_readNumber x1 x2 μ) jIM := by
  refine sp_go (lv := [some (vR 61), some (vI x1), some (vI x2), none]) pn_X9 (Nat.le_of_ble_eq_true rfl) rfl ?_
  unfold mod_readNumber
  refine sr_aload_n (i := 0) (pc' := 1) dX9_readNumber_0 rfl rfl rfl ?_
  refine sr_iload_n (i := 1) (pc' := 2) dX9_readNumber_1 rfl rfl rfl ?_
  refine sr_iload_n (i := 2) (pc' := 3) dX9_readNumber_2 rfl rfl rfl ?_
  refine sr_callV2_IM (pc' := 6) (mod_looked_sp x1 x2 μ) dX9_readNumber_3 rfl mg_X9_looked mi_X9_looked (Or.inl ⟨9, _, TX9, 40, s88_61, rfl⟩) ⟨Nat.le_of_ble_eq_true rfl, Nat.le_of_ble_eq_true rfl⟩ w_393 (Nat.le_of_ble_eq_true rfl) (fun u1 hu1 hcu1 hzu1 => ?_)
  refine sr_istore_n (i := 3) (lv' := [some (vR 61), some (vI x1), some (vI x2), some (vI u1.1)]) (pc' := 7) dX9_readNumber_6 rfl rfl (by decide) rfl ?_
  refine sr_aload_n (i := 0) (pc' := 8) dX9_readNumber_7 rfl rfl rfl ?_
  refine sr_callV0_M (pc' := 11) (mod_next_sp u1.2) dX9_readNumber_8 rfl mg_X9_next mi_X9_next (Or.inl ⟨9, _, TX9, 40, s88_61, rfl⟩) ⟨Nat.le_of_ble_eq_true rfl, Nat.le_of_ble_eq_true rfl⟩ w_406 (Nat.le_of_ble_eq_true rfl) (fun μ2 hμ2 => ?_)
  refine sr_iload_n (i := 3) (pc' := 12) dX9_readNumber_11 rfl rfl rfl ?_
  exact sr_iretI dX9_readNumber_12 rfl rfl
def mod_readYard   (μ : Mem) : Option (Int × Mem) := (mod_lookedYard μ).bind fun u1 => (mod_next u1.2).bind fun μ2 => some (u1.1, μ2)
theorem mod_readYard_sp {l : Launch} {G : Nv}   (μ : Mem) : SP l G S88 mX9_readYard [vR 61] μ (mod_readYard μ) jIM := by
  refine sp_go (lv := [some (vR 61), none]) pn_X9 (Nat.le_of_ble_eq_true rfl) rfl ?_
  unfold mod_readYard
  refine sr_aload_n (i := 0) (pc' := 1) dX9_readYard_0 rfl rfl rfl ?_
  refine sr_callV0_IM (pc' := 4) (mod_lookedYard_sp μ) dX9_readYard_1 rfl mg_X9_lookedYard mi_X9_lookedYard (Or.inl ⟨9, _, TX9, 40, s88_61, rfl⟩) ⟨Nat.le_of_ble_eq_true rfl, Nat.le_of_ble_eq_true rfl⟩ w_407 (Nat.le_of_ble_eq_true rfl) (fun u1 hu1 hcu1 hzu1 => ?_)
  refine sr_istore_n (i := 1) (lv' := [some (vR 61), some (vI u1.1)]) (pc' := 5) dX9_readYard_4 rfl rfl (by decide) rfl ?_
  refine sr_aload_n (i := 0) (pc' := 6) dX9_readYard_5 rfl rfl rfl ?_
  refine sr_callV0_M (pc' := 9) (mod_next_sp u1.2) dX9_readYard_6 rfl mg_X9_next mi_X9_next (Or.inl ⟨9, _, TX9, 40, s88_61, rfl⟩) ⟨Nat.le_of_ble_eq_true rfl, Nat.le_of_ble_eq_true rfl⟩ w_406 (Nat.le_of_ble_eq_true rfl) (fun μ2 hμ2 => ?_)
  refine sr_iload_n (i := 1) (pc' := 10) dX9_readYard_9 rfl rfl rfl ?_
  exact sr_iretI dX9_readYard_10 rfl rfl
def mod_readCart_159   (x1 s1 : Int) (μ : Mem) : Option (Mem) := (mod_needs s1 4 μ).bind fun μ1 => (mod_next μ1).bind fun μ2 => (mod_readNumber 0 20 μ2).bind fun u3 => (stx u3.2 68 185 (wI (x1 + 6)) u3.1).bind fun μ4 => bnd (mset μ4 68 0 (wI ((μ4 68 0) + 1))) fun μ5 => some μ5
theorem mod_readCart_159_s {l : Launch} {G : Nv}     : ∀ (x1 s1 : Int) (μ : Mem), SR l G S88 mX9_readCart (mod_readCart_159 x1 s1 μ) jM 159 [some (vR 61), some (vI x1), none] [vI s1, vR 61] μ := by
  intro x1 s1 μ
  unfold mod_readCart_159
  refine sr_iconst (pc' := 160) dX9_readCart_159 rfl (by decide) ?_
  refine sr_callV2_M (pc' := 163) (mod_needs_sp s1 4 μ) dX9_readCart_160 rfl mg_X9_needs mi_X9_needs (Or.inl ⟨9, _, TX9, 40, s88_61, rfl⟩) ⟨Nat.le_of_ble_eq_true rfl, Nat.le_of_ble_eq_true rfl⟩ w_390 (Nat.le_of_ble_eq_true rfl) (fun μ1 hμ1 => ?_)
  refine sr_aload_n (i := 0) (pc' := 164) dX9_readCart_163 rfl rfl rfl ?_
  refine sr_callV0_M (pc' := 167) (mod_next_sp μ1) dX9_readCart_164 rfl mg_X9_next mi_X9_next (Or.inl ⟨9, _, TX9, 40, s88_61, rfl⟩) ⟨Nat.le_of_ble_eq_true rfl, Nat.le_of_ble_eq_true rfl⟩ w_406 (Nat.le_of_ble_eq_true rfl) (fun μ2 hμ2 => ?_)
  refine sr_aload_n (i := 0) (pc' := 168) dX9_readCart_167 rfl rfl rfl ?_
  refine sr_getR (k := 7) (b := 68) (pc' := 171) cls_X9 dX9_readCart_168 rfl s88_61 rfl (by decide) w_377 ?_
  refine sr_iload_n (i := 1) (pc' := 172) dX9_readCart_171 rfl rfl rfl ?_
  refine sr_bipush (pc' := 174) dX9_readCart_172 rfl (by decide) (by decide) ?_
  refine sr_iadd (pc' := 175) dX9_readCart_174 rfl ?_
  refine sr_aload_n (i := 0) (pc' := 176) dX9_readCart_175 rfl rfl rfl ?_
  refine sr_iconst (pc' := 177) dX9_readCart_176 rfl (by decide) ?_
  refine sr_bipush (pc' := 179) dX9_readCart_177 rfl (by decide) (by decide) ?_
  refine sr_callV2_IM (pc' := 182) (mod_readNumber_sp 0 20 μ2) dX9_readCart_179 rfl mg_X9_readNumber mi_X9_readNumber (Or.inl ⟨9, _, TX9, 40, s88_61, rfl⟩) ⟨Nat.le_of_ble_eq_true rfl, Nat.le_of_ble_eq_true rfl⟩ w_408 (Nat.le_of_ble_eq_true rfl) (fun u3 hu3 hcu3 hzu3 => ?_)
  refine sr_iast (pc' := 183) dX9_readCart_182 rfl s88_68 (by decide) (fun μ4 hμ4 hμ4a hμ4b => ?_)
  refine sr_aload_n (i := 0) (pc' := 184) dX9_readCart_183 rfl rfl rfl ?_
  refine sr_getR (k := 7) (b := 68) (pc' := 187) cls_X9 dX9_readCart_184 rfl s88_61 rfl (by decide) w_377 ?_
  refine sr_iconst (pc' := 188) dX9_readCart_187 rfl (by decide) ?_
  refine sr_dup2 (pc' := 189) dX9_readCart_188 rfl rfl rfl ?_
  refine sr_ialdc (j := 0) (pc' := 190) dX9_readCart_189 rfl s88_68 (by decide) (by decide) (by decide) rfl ?_
  refine sr_iconst (pc' := 191) dX9_readCart_190 rfl (by decide) ?_
  refine sr_iadd (pc' := 192) dX9_readCart_191 rfl ?_
  refine sr_iastc (j := 0) (pc' := 193) dX9_readCart_192 rfl s88_68 (by decide) (by decide) (by decide) rfl (fun μ5 hμ5 => ?_)
  exact sr_ret dX9_readCart_193 rfl rfl
def mod_readCart_49   (x1 x2 s1 : Int) (μ : Mem) : Option (Mem) := (mod_needs s1 2 μ).bind fun μ1 => (mod_next μ1).bind fun μ2 => (stx μ2 68 185 (wI (x1 + 0)) x2).bind fun μ3 => (mod_readNumber 0 2 μ3).bind fun u4 => (stx u4.2 68 185 (wI (x1 + 1)) u4.1).bind fun μ5 => (mod_readNumber 1 9 μ5).bind fun u6 => (stx u6.2 68 185 (wI (x1 + 2)) u6.1).bind fun μ7 => (mod_readNumber 0 30 μ7).bind fun u8 => (stx u8.2 68 185 (wI (x1 + 3)) u8.1).bind fun μ9 => (mod_readYard μ9).bind fun u10 => (stx u10.2 68 185 (wI (x1 + 4)) u10.1).bind fun μ11 => (mod_lookedYard μ11).bind fun u12 => (stx u12.2 68 185 (wI (x1 + 5)) u12.1).bind fun μ13 => (ld μ13 68 185 (wI (x1 + 5))).bind fun v14 => (ld μ13 68 185 (wI (x1 + 4))).bind fun v15 => if v14 = v15 then (mod_readCart_159 x1 0 μ13) else (mod_readCart_159 x1 1 μ13)
theorem mod_readCart_49_s {l : Launch} {G : Nv}     : ∀ (x1 x2 s1 : Int) (μ : Mem), SR l G S88 mX9_readCart (mod_readCart_49 x1 x2 s1 μ) jM 49 [some (vR 61), some (vI x1), some (vI x2)] [vI s1, vR 61] μ := by
  intro x1 x2 s1 μ
  unfold mod_readCart_49
  refine sr_iconst (pc' := 50) dX9_readCart_49 rfl (by decide) ?_
  refine sr_callV2_M (pc' := 53) (mod_needs_sp s1 2 μ) dX9_readCart_50 rfl mg_X9_needs mi_X9_needs (Or.inl ⟨9, _, TX9, 40, s88_61, rfl⟩) ⟨Nat.le_of_ble_eq_true rfl, Nat.le_of_ble_eq_true rfl⟩ w_390 (Nat.le_of_ble_eq_true rfl) (fun μ1 hμ1 => ?_)
  refine sr_aload_n (i := 0) (pc' := 54) dX9_readCart_53 rfl rfl rfl ?_
  refine sr_callV0_M (pc' := 57) (mod_next_sp μ1) dX9_readCart_54 rfl mg_X9_next mi_X9_next (Or.inl ⟨9, _, TX9, 40, s88_61, rfl⟩) ⟨Nat.le_of_ble_eq_true rfl, Nat.le_of_ble_eq_true rfl⟩ w_406 (Nat.le_of_ble_eq_true rfl) (fun μ2 hμ2 => ?_)
  refine sr_aload_n (i := 0) (pc' := 58) dX9_readCart_57 rfl rfl rfl ?_
  refine sr_getR (k := 7) (b := 68) (pc' := 61) cls_X9 dX9_readCart_58 rfl s88_61 rfl (by decide) w_377 ?_
  refine sr_iload_n (i := 1) (pc' := 62) dX9_readCart_61 rfl rfl rfl ?_
  refine sr_iconst (pc' := 63) dX9_readCart_62 rfl (by decide) ?_
  refine sr_iadd (pc' := 64) dX9_readCart_63 rfl ?_
  refine sr_iload_n (i := 2) (pc' := 65) dX9_readCart_64 rfl rfl rfl ?_
  refine sr_iast (pc' := 66) dX9_readCart_65 rfl s88_68 (by decide) (fun μ3 hμ3 hμ3a hμ3b => ?_)
  refine sr_aload_n (i := 0) (pc' := 67) dX9_readCart_66 rfl rfl rfl ?_
  refine sr_getR (k := 7) (b := 68) (pc' := 70) cls_X9 dX9_readCart_67 rfl s88_61 rfl (by decide) w_377 ?_
  refine sr_iload_n (i := 1) (pc' := 71) dX9_readCart_70 rfl rfl rfl ?_
  refine sr_iconst (pc' := 72) dX9_readCart_71 rfl (by decide) ?_
  refine sr_iadd (pc' := 73) dX9_readCart_72 rfl ?_
  refine sr_aload_n (i := 0) (pc' := 74) dX9_readCart_73 rfl rfl rfl ?_
  refine sr_iconst (pc' := 75) dX9_readCart_74 rfl (by decide) ?_
  refine sr_iconst (pc' := 76) dX9_readCart_75 rfl (by decide) ?_
  refine sr_callV2_IM (pc' := 79) (mod_readNumber_sp 0 2 μ3) dX9_readCart_76 rfl mg_X9_readNumber mi_X9_readNumber (Or.inl ⟨9, _, TX9, 40, s88_61, rfl⟩) ⟨Nat.le_of_ble_eq_true rfl, Nat.le_of_ble_eq_true rfl⟩ w_408 (Nat.le_of_ble_eq_true rfl) (fun u4 hu4 hcu4 hzu4 => ?_)
  refine sr_iast (pc' := 80) dX9_readCart_79 rfl s88_68 (by decide) (fun μ5 hμ5 hμ5a hμ5b => ?_)
  refine sr_aload_n (i := 0) (pc' := 81) dX9_readCart_80 rfl rfl rfl ?_
  refine sr_getR (k := 7) (b := 68) (pc' := 84) cls_X9 dX9_readCart_81 rfl s88_61 rfl (by decide) w_377 ?_
  refine sr_iload_n (i := 1) (pc' := 85) dX9_readCart_84 rfl rfl rfl ?_
  refine sr_iconst (pc' := 86) dX9_readCart_85 rfl (by decide) ?_
  refine sr_iadd (pc' := 87) dX9_readCart_86 rfl ?_
  refine sr_aload_n (i := 0) (pc' := 88) dX9_readCart_87 rfl rfl rfl ?_
  refine sr_iconst (pc' := 89) dX9_readCart_88 rfl (by decide) ?_
  refine sr_bipush (pc' := 91) dX9_readCart_89 rfl (by decide) (by decide) ?_
  refine sr_callV2_IM (pc' := 94) (mod_readNumber_sp 1 9 μ5) dX9_readCart_91 rfl mg_X9_readNumber mi_X9_readNumber (Or.inl ⟨9, _, TX9, 40, s88_61, rfl⟩) ⟨Nat.le_of_ble_eq_true rfl, Nat.le_of_ble_eq_true rfl⟩ w_408 (Nat.le_of_ble_eq_true rfl) (fun u6 hu6 hcu6 hzu6 => ?_)
  refine sr_iast (pc' := 95) dX9_readCart_94 rfl s88_68 (by decide) (fun μ7 hμ7 hμ7a hμ7b => ?_)
  refine sr_aload_n (i := 0) (pc' := 96) dX9_readCart_95 rfl rfl rfl ?_
  refine sr_getR (k := 7) (b := 68) (pc' := 99) cls_X9 dX9_readCart_96 rfl s88_61 rfl (by decide) w_377 ?_
  refine sr_iload_n (i := 1) (pc' := 100) dX9_readCart_99 rfl rfl rfl ?_
  refine sr_iconst (pc' := 101) dX9_readCart_100 rfl (by decide) ?_
  refine sr_iadd (pc' := 102) dX9_readCart_101 rfl ?_
  refine sr_aload_n (i := 0) (pc' := 103) dX9_readCart_102 rfl rfl rfl ?_
  refine sr_iconst (pc' := 104) dX9_readCart_103 rfl (by decide) ?_
  refine sr_bipush (pc' := 106) dX9_readCart_104 rfl (by decide) (by decide) ?_
  refine sr_callV2_IM (pc' := 109) (mod_readNumber_sp 0 30 μ7) dX9_readCart_106 rfl mg_X9_readNumber mi_X9_readNumber (Or.inl ⟨9, _, TX9, 40, s88_61, rfl⟩) ⟨Nat.le_of_ble_eq_true rfl, Nat.le_of_ble_eq_true rfl⟩ w_408 (Nat.le_of_ble_eq_true rfl) (fun u8 hu8 hcu8 hzu8 => ?_)
  refine sr_iast (pc' := 110) dX9_readCart_109 rfl s88_68 (by decide) (fun μ9 hμ9 hμ9a hμ9b => ?_)
  refine sr_aload_n (i := 0) (pc' := 111) dX9_readCart_110 rfl rfl rfl ?_
  refine sr_getR (k := 7) (b := 68) (pc' := 114) cls_X9 dX9_readCart_111 rfl s88_61 rfl (by decide) w_377 ?_
  refine sr_iload_n (i := 1) (pc' := 115) dX9_readCart_114 rfl rfl rfl ?_
  refine sr_iconst (pc' := 116) dX9_readCart_115 rfl (by decide) ?_
  refine sr_iadd (pc' := 117) dX9_readCart_116 rfl ?_
  refine sr_aload_n (i := 0) (pc' := 118) dX9_readCart_117 rfl rfl rfl ?_
  refine sr_callV0_IM (pc' := 121) (mod_readYard_sp μ9) dX9_readCart_118 rfl mg_X9_readYard mi_X9_readYard (Or.inl ⟨9, _, TX9, 40, s88_61, rfl⟩) ⟨Nat.le_of_ble_eq_true rfl, Nat.le_of_ble_eq_true rfl⟩ w_409 (Nat.le_of_ble_eq_true rfl) (fun u10 hu10 hcu10 hzu10 => ?_)
  refine sr_iast (pc' := 122) dX9_readCart_121 rfl s88_68 (by decide) (fun μ11 hμ11 hμ11a hμ11b => ?_)
  refine sr_aload_n (i := 0) (pc' := 123) dX9_readCart_122 rfl rfl rfl ?_
  refine sr_getR (k := 7) (b := 68) (pc' := 126) cls_X9 dX9_readCart_123 rfl s88_61 rfl (by decide) w_377 ?_
  refine sr_iload_n (i := 1) (pc' := 127) dX9_readCart_126 rfl rfl rfl ?_
  refine sr_iconst (pc' := 128) dX9_readCart_127 rfl (by decide) ?_
  refine sr_iadd (pc' := 129) dX9_readCart_128 rfl ?_
  refine sr_aload_n (i := 0) (pc' := 130) dX9_readCart_129 rfl rfl rfl ?_
  refine sr_callV0_IM (pc' := 133) (mod_lookedYard_sp μ11) dX9_readCart_130 rfl mg_X9_lookedYard mi_X9_lookedYard (Or.inl ⟨9, _, TX9, 40, s88_61, rfl⟩) ⟨Nat.le_of_ble_eq_true rfl, Nat.le_of_ble_eq_true rfl⟩ w_407 (Nat.le_of_ble_eq_true rfl) (fun u12 hu12 hcu12 hzu12 => ?_)
  refine sr_iast (pc' := 134) dX9_readCart_133 rfl s88_68 (by decide) (fun μ13 hμ13 hμ13a hμ13b => ?_)
  refine sr_aload_n (i := 0) (pc' := 135) dX9_readCart_134 rfl rfl rfl ?_
  refine sr_aload_n (i := 0) (pc' := 136) dX9_readCart_135 rfl rfl rfl ?_
  refine sr_getR (k := 7) (b := 68) (pc' := 139) cls_X9 dX9_readCart_136 rfl s88_61 rfl (by decide) w_377 ?_
  refine sr_iload_n (i := 1) (pc' := 140) dX9_readCart_139 rfl rfl rfl ?_
  refine sr_iconst (pc' := 141) dX9_readCart_140 rfl (by decide) ?_
  refine sr_iadd (pc' := 142) dX9_readCart_141 rfl ?_
  refine sr_iald (pc' := 143) dX9_readCart_142 rfl s88_68 (by decide) (fun v14 hv14 hv14a hv14b => ?_)
  refine sr_aload_n (i := 0) (pc' := 144) dX9_readCart_143 rfl rfl rfl ?_
  refine sr_getR (k := 7) (b := 68) (pc' := 147) cls_X9 dX9_readCart_144 rfl s88_61 rfl (by decide) w_377 ?_
  refine sr_iload_n (i := 1) (pc' := 148) dX9_readCart_147 rfl rfl rfl ?_
  refine sr_iconst (pc' := 149) dX9_readCart_148 rfl (by decide) ?_
  refine sr_iadd (pc' := 150) dX9_readCart_149 rfl ?_
  refine sr_iald (pc' := 151) dX9_readCart_150 rfl s88_68 (by decide) (fun v15 hv15 hv15a hv15b => ?_)
  refine sr_icmp_eq (pc' := 154) (tgt := 158) dX9_readCart_151 rfl rfl (fun c151 => ?_) (fun c151 => ?_)
  · refine sr_iconst (pc' := 159) dX9_readCart_158 rfl (by decide) ?_
    refine sr_fgt (fgt_s (fgt_s (fgt_n fgt_nil))) ?_
    exact mod_readCart_159_s x1 0 μ13
  · refine sr_iconst (pc' := 155) dX9_readCart_154 rfl (by decide) ?_
    refine sr_goto (pc' := 159) dX9_readCart_155 rfl ?_
    refine sr_fgt (fgt_s (fgt_s (fgt_n fgt_nil))) ?_
    exact mod_readCart_159_s x1 1 μ13
def mod_readCart_36   (x1 s0 : Int) (μ : Mem) : Option (Mem) := if s0 = (-4) then (mod_readCart_49 x1 s0 0 μ) else (mod_readCart_49 x1 s0 1 μ)
theorem mod_readCart_36_s {l : Launch} {G : Nv}     : ∀ (x1 s0 : Int) (μ : Mem), SR l G S88 mX9_readCart (mod_readCart_36 x1 s0 μ) jM 36 [some (vR 61), some (vI x1), none] [vI s0] μ := by
  intro x1 s0 μ
  unfold mod_readCart_36
  refine sr_istore_n (i := 2) (lv' := [some (vR 61), some (vI x1), some (vI s0)]) (pc' := 37) dX9_readCart_36 rfl rfl (by decide) rfl ?_
  refine sr_aload_n (i := 0) (pc' := 38) dX9_readCart_37 rfl rfl rfl ?_
  refine sr_iload_n (i := 2) (pc' := 39) dX9_readCart_38 rfl rfl rfl ?_
  refine sr_bipush (pc' := 41) dX9_readCart_39 rfl (by decide) (by decide) ?_
  refine sr_icmp_eq (pc' := 44) (tgt := 48) dX9_readCart_41 rfl rfl (fun c41 => ?_) (fun c41 => ?_)
  · refine sr_iconst (pc' := 49) dX9_readCart_48 rfl (by decide) ?_
    exact mod_readCart_49_s x1 s0 0 μ
  · refine sr_iconst (pc' := 45) dX9_readCart_44 rfl (by decide) ?_
    refine sr_goto (pc' := 49) dX9_readCart_45 rfl ?_
    exact mod_readCart_49_s x1 s0 1 μ
def mod_readCart   (μ : Mem) : Option (Mem) := bnd (wI (1 + (wI (7 * (μ 68 0))))) fun v1 => if (μ 61 23) = 0 then (if (μ 61 21) = 1 then ((mod_kindNow μ).bind fun u2 => mod_readCart_36 v1 u2 μ) else (mod_readCart_36 v1 (-4) μ)) else (mod_readCart_36 v1 (-4) μ)
theorem mod_readCart_sp {l : Launch} {G : Nv}   (μ : Mem) : SP l G S88 mX9_readCart [vR 61] μ (mod_readCart μ) jM := by
  refine sp_go (lv := [some (vR 61), none, none]) pn_X9 (Nat.le_of_ble_eq_true rfl) rfl ?_
  unfold mod_readCart
  refine sr_iconst (pc' := 1) dX9_readCart_0 rfl (by decide) ?_
  refine sr_bipush (pc' := 3) dX9_readCart_1 rfl (by decide) (by decide) ?_
  refine sr_aload_n (i := 0) (pc' := 4) dX9_readCart_3 rfl rfl rfl ?_
  refine sr_getR (k := 7) (b := 68) (pc' := 7) cls_X9 dX9_readCart_4 rfl s88_61 rfl (by decide) w_377 ?_
  refine sr_iconst (pc' := 8) dX9_readCart_7 rfl (by decide) ?_
  refine sr_ialdc (j := 0) (pc' := 9) dX9_readCart_8 rfl s88_68 (by decide) (by decide) (by decide) rfl ?_
  refine sr_imul (pc' := 10) dX9_readCart_9 rfl ?_
  refine sr_iadd (pc' := 11) dX9_readCart_10 rfl ?_
  refine sr_bnd (fun v1 hv1 => ?_)
  refine sr_istore_n (i := 1) (lv' := [some (vR 61), some (vI v1), none]) (pc' := 12) dX9_readCart_11 rfl rfl (by decide) rfl ?_
  refine sr_aload_n (i := 0) (pc' := 13) dX9_readCart_12 rfl rfl rfl ?_
  refine sr_getI (k := 23) (pc' := 16) cls_X9 dX9_readCart_13 rfl s88_61 rfl (by decide) w_360 ?_
  refine sr_if_ne (pc' := 19) (tgt := 34) dX9_readCart_16 rfl rfl (fun c16 => ?_) (fun c16 => ?_)
  · refine sr_aload_n (i := 0) (pc' := 20) dX9_readCart_19 rfl rfl rfl ?_
    refine sr_getI (k := 21) (pc' := 23) cls_X9 dX9_readCart_20 rfl s88_61 rfl (by decide) w_392 ?_
    refine sr_iconst (pc' := 24) dX9_readCart_23 rfl (by decide) ?_
    refine sr_icmp_ne (pc' := 27) (tgt := 34) dX9_readCart_24 rfl rfl (fun c24 => ?_) (fun c24 => ?_)
    · refine sr_aload_n (i := 0) (pc' := 28) dX9_readCart_27 rfl rfl rfl ?_
      refine sr_callV0_I (pc' := 31) (mod_kindNow_sp μ) dX9_readCart_28 rfl mg_X9_kindNow mi_X9_kindNow (Or.inl ⟨9, _, TX9, 40, s88_61, rfl⟩) ⟨Nat.le_of_ble_eq_true rfl, Nat.le_of_ble_eq_true rfl⟩ w_410 (Nat.le_of_ble_eq_true rfl) (fun u2 hu2 hcu2 hzu2 => ?_)
      refine sr_goto (pc' := 36) dX9_readCart_31 rfl ?_
      exact mod_readCart_36_s v1 u2 μ
    · refine sr_bipush (pc' := 36) dX9_readCart_34 rfl (by decide) (by decide) ?_
      exact mod_readCart_36_s v1 (-4) μ
  · refine sr_bipush (pc' := 36) dX9_readCart_34 rfl (by decide) (by decide) ?_
    exact mod_readCart_36_s v1 (-4) μ
