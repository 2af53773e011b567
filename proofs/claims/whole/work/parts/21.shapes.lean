def S88 : Shp := [(11, 0, [4, 12, 20, 28, 38, 47, 49, 54, 56, 60, 0]), (7, 0, [5, 6, 7, 8, 9, 10, 11, 0, 1, 0, 0, 0]), (0, 21, []), (0, 21, []), (0, 63, []), (0, 63, []), (0, 35, []), (0, 8, []), (0, 8, []), (7, 0, [13, 14, 15, 16, 17, 18, 19, 0, 1, 0, 0, 0]), (0, 21, []), (0, 21, []), (0, 63, []), (0, 63, []), (0, 35, []), (0, 8, []), (0, 8, []), (7, 0, [21, 22, 23, 24, 25, 26, 27, 0, 1, 0, 0, 0]), (0, 21, []), (0, 21, []), (0, 63, []), (0, 63, []), (0, 35, []), (0, 8, []), (0, 8, []), (6, 0, [29, 0, 30, 0, 0, 0, 0, 0, 2, 0, 1, 0]), (1, 400, []), (7, 0, [31, 32, 33, 34, 35, 36, 37, 0, 1, 0, 0, 0]), (0, 21, []), (0, 21, []), (0, 63, []), (0, 63, []), (0, 35, []), (0, 8, []), (0, 8, []), (8, 0, [4, 39, 41, 42, 43, 44, 45, 46, 0, 0, 0, 0, 0]), (4, 0, [40, 0]), (0, 5, []), (0, 5, []), (0, 5, []), (0, 5, []), (0, 5, []), (0, 63, []), (0, 63, []), (4, 0, [48, 0]), (0, 5, []), (5, 0, [4, 38, 50, 52, 2, 2, 0, 0, 0, 0]), (4, 0, [51, 0]), (0, 5, []), (4, 0, [53, 0]), (0, 5, []), (10, 0, [4, 55, 0, 2]), (0, 63, []), (3, 0, [4, 57, 59, 0, 0]), (4, 0, [58, 0]), (0, 5, []), (0, 5, []), (9, 0, [61, 62, 63, 0]), (0, 160, []), (0, 4, []), (0, 4, []), (12, 0, [65, 66, 0, 67, 68, 69, 70, 71, 0, 72, 73, 74, 75, 76, 2, 0, 0, 77, 0, 0, 0, 0, 0, 0, 0, 78, 79, 80, 81, 82, 83, 0, 84, 85, 86, 87, 88, 89, 90, 0]), (0, 555, []), (2, 2, []), (2, 21, []), (0, 21, []), (0, 21, []), (0, 63, []), (0, 185, []), (2, 21, []), (0, 21, []), (0, 21, []), (0, 63, []), (2, 63, []), (0, 400, []), (0, 5, []), (0, 5, []), (0, 5, []), (0, 5, []), (0, 63, []), (0, 5, []), (0, 5, []), (0, 63, []), (0, 63, []), (2, 63, []), (0, 4, []), (0, 4, []), (0, 160, [])]
theorem s88_0 : S88[0]? = some (11, 0, [4, 12, 20, 28, 38, 47, 49, 54, 56, 60, 0]) := rfl
theorem s88_1 : S88[1]? = some (7, 0, [5, 6, 7, 8, 9, 10, 11, 0, 1, 0, 0, 0]) := rfl
theorem s88_2 : S88[2]? = some (0, 21, []) := rfl
theorem s88_3 : S88[3]? = some (0, 21, []) := rfl
theorem s88_4 : S88[4]? = some (0, 63, []) := rfl
theorem s88_5 : S88[5]? = some (0, 63, []) := rfl
theorem s88_6 : S88[6]? = some (0, 35, []) := rfl
theorem s88_7 : S88[7]? = some (0, 8, []) := rfl
theorem s88_8 : S88[8]? = some (0, 8, []) := rfl
theorem s88_9 : S88[9]? = some (7, 0, [13, 14, 15, 16, 17, 18, 19, 0, 1, 0, 0, 0]) := rfl
theorem s88_10 : S88[10]? = some (0, 21, []) := rfl
theorem s88_11 : S88[11]? = some (0, 21, []) := rfl
theorem s88_12 : S88[12]? = some (0, 63, []) := rfl
theorem s88_13 : S88[13]? = some (0, 63, []) := rfl
theorem s88_14 : S88[14]? = some (0, 35, []) := rfl
theorem s88_15 : S88[15]? = some (0, 8, []) := rfl
theorem s88_16 : S88[16]? = some (0, 8, []) := rfl
theorem s88_17 : S88[17]? = some (7, 0, [21, 22, 23, 24, 25, 26, 27, 0, 1, 0, 0, 0]) := rfl
theorem s88_18 : S88[18]? = some (0, 21, []) := rfl
theorem s88_19 : S88[19]? = some (0, 21, []) := rfl
theorem s88_20 : S88[20]? = some (0, 63, []) := rfl
theorem s88_21 : S88[21]? = some (0, 63, []) := rfl
theorem s88_22 : S88[22]? = some (0, 35, []) := rfl
theorem s88_23 : S88[23]? = some (0, 8, []) := rfl
theorem s88_24 : S88[24]? = some (0, 8, []) := rfl
theorem s88_25 : S88[25]? = some (6, 0, [29, 0, 30, 0, 0, 0, 0, 0, 2, 0, 1, 0]) := rfl
theorem s88_26 : S88[26]? = some (1, 400, []) := rfl
theorem s88_27 : S88[27]? = some (7, 0, [31, 32, 33, 34, 35, 36, 37, 0, 1, 0, 0, 0]) := rfl
theorem s88_28 : S88[28]? = some (0, 21, []) := rfl
theorem s88_29 : S88[29]? = some (0, 21, []) := rfl
theorem s88_30 : S88[30]? = some (0, 63, []) := rfl
theorem s88_31 : S88[31]? = some (0, 63, []) := rfl
theorem s88_32 : S88[32]? = some (0, 35, []) := rfl
theorem s88_33 : S88[33]? = some (0, 8, []) := rfl
theorem s88_34 : S88[34]? = some (0, 8, []) := rfl
theorem s88_35 : S88[35]? = some (8, 0, [4, 39, 41, 42, 43, 44, 45, 46, 0, 0, 0, 0, 0]) := rfl
theorem s88_36 : S88[36]? = some (4, 0, [40, 0]) := rfl
theorem s88_37 : S88[37]? = some (0, 5, []) := rfl
theorem s88_38 : S88[38]? = some (0, 5, []) := rfl
theorem s88_39 : S88[39]? = some (0, 5, []) := rfl
theorem s88_40 : S88[40]? = some (0, 5, []) := rfl
theorem s88_41 : S88[41]? = some (0, 5, []) := rfl
theorem s88_42 : S88[42]? = some (0, 63, []) := rfl
theorem s88_43 : S88[43]? = some (0, 63, []) := rfl
theorem s88_44 : S88[44]? = some (4, 0, [48, 0]) := rfl
theorem s88_45 : S88[45]? = some (0, 5, []) := rfl
theorem s88_46 : S88[46]? = some (5, 0, [4, 38, 50, 52, 2, 2, 0, 0, 0, 0]) := rfl
theorem s88_47 : S88[47]? = some (4, 0, [51, 0]) := rfl
theorem s88_48 : S88[48]? = some (0, 5, []) := rfl
theorem s88_49 : S88[49]? = some (4, 0, [53, 0]) := rfl
theorem s88_50 : S88[50]? = some (0, 5, []) := rfl
theorem s88_51 : S88[51]? = some (10, 0, [4, 55, 0, 2]) := rfl
theorem s88_52 : S88[52]? = some (0, 63, []) := rfl
theorem s88_53 : S88[53]? = some (3, 0, [4, 57, 59, 0, 0]) := rfl
theorem s88_54 : S88[54]? = some (4, 0, [58, 0]) := rfl
theorem s88_55 : S88[55]? = some (0, 5, []) := rfl
theorem s88_56 : S88[56]? = some (0, 5, []) := rfl
theorem s88_57 : S88[57]? = some (9, 0, [61, 62, 63, 0]) := rfl
theorem s88_58 : S88[58]? = some (0, 160, []) := rfl
theorem s88_59 : S88[59]? = some (0, 4, []) := rfl
theorem s88_60 : S88[60]? = some (0, 4, []) := rfl
theorem s88_61 : S88[61]? = some (12, 0, [65, 66, 0, 67, 68, 69, 70, 71, 0, 72, 73, 74, 75, 76, 2, 0, 0, 77, 0, 0, 0, 0, 0, 0, 0, 78, 79, 80, 81, 82, 83, 0, 84, 85, 86, 87, 88, 89, 90, 0]) := rfl
theorem s88_62 : S88[62]? = some (0, 555, []) := rfl
theorem s88_63 : S88[63]? = some (2, 2, []) := rfl
theorem s88_64 : S88[64]? = some (2, 21, []) := rfl
theorem s88_65 : S88[65]? = some (0, 21, []) := rfl
theorem s88_66 : S88[66]? = some (0, 21, []) := rfl
theorem s88_67 : S88[67]? = some (0, 63, []) := rfl
theorem s88_68 : S88[68]? = some (0, 185, []) := rfl
theorem s88_69 : S88[69]? = some (2, 21, []) := rfl
theorem s88_70 : S88[70]? = some (0, 21, []) := rfl
theorem s88_71 : S88[71]? = some (0, 21, []) := rfl
theorem s88_72 : S88[72]? = some (0, 63, []) := rfl
theorem s88_73 : S88[73]? = some (2, 63, []) := rfl
theorem s88_74 : S88[74]? = some (0, 400, []) := rfl
theorem s88_75 : S88[75]? = some (0, 5, []) := rfl
theorem s88_76 : S88[76]? = some (0, 5, []) := rfl
theorem s88_77 : S88[77]? = some (0, 5, []) := rfl
theorem s88_78 : S88[78]? = some (0, 5, []) := rfl
theorem s88_79 : S88[79]? = some (0, 63, []) := rfl
theorem s88_80 : S88[80]? = some (0, 5, []) := rfl
theorem s88_81 : S88[81]? = some (0, 5, []) := rfl
theorem s88_82 : S88[82]? = some (0, 63, []) := rfl
theorem s88_83 : S88[83]? = some (0, 63, []) := rfl
theorem s88_84 : S88[84]? = some (2, 63, []) := rfl
theorem s88_85 : S88[85]? = some (0, 4, []) := rfl
theorem s88_86 : S88[86]? = some (0, 4, []) := rfl
theorem s88_87 : S88[87]? = some (0, 160, []) := rfl
def SM : Shp := [(12, 0, [4, 5, 0, 6, 7, 8, 9, 10, 0, 11, 12, 13, 14, 15, 2, 0, 0, 16, 0, 0, 0, 0, 0, 0, 0, 17, 18, 19, 20, 21, 22, 0, 23, 24, 25, 26, 27, 28, 29, 0]), (0, 555, []), (2, 2, []), (2, 21, []), (0, 21, []), (0, 21, []), (0, 63, []), (0, 185, []), (2, 21, []), (0, 21, []), (0, 21, []), (0, 63, []), (2, 63, []), (0, 400, []), (0, 5, []), (0, 5, []), (0, 5, []), (0, 5, []), (0, 63, []), (0, 5, []), (0, 5, []), (0, 63, []), (0, 63, []), (2, 63, []), (0, 4, []), (0, 4, []), (0, 160, [])]
theorem sm_0 : SM[0]? = some (12, 0, [4, 5, 0, 6, 7, 8, 9, 10, 0, 11, 12, 13, 14, 15, 2, 0, 0, 16, 0, 0, 0, 0, 0, 0, 0, 17, 18, 19, 20, 21, 22, 0, 23, 24, 25, 26, 27, 28, 29, 0]) := rfl
theorem sm_1 : SM[1]? = some (0, 555, []) := rfl
theorem sm_2 : SM[2]? = some (2, 2, []) := rfl
theorem sm_3 : SM[3]? = some (2, 21, []) := rfl
theorem sm_4 : SM[4]? = some (0, 21, []) := rfl
theorem sm_5 : SM[5]? = some (0, 21, []) := rfl
theorem sm_6 : SM[6]? = some (0, 63, []) := rfl
theorem sm_7 : SM[7]? = some (0, 185, []) := rfl
theorem sm_8 : SM[8]? = some (2, 21, []) := rfl
theorem sm_9 : SM[9]? = some (0, 21, []) := rfl
theorem sm_10 : SM[10]? = some (0, 21, []) := rfl
theorem sm_11 : SM[11]? = some (0, 63, []) := rfl
theorem sm_12 : SM[12]? = some (2, 63, []) := rfl
theorem sm_13 : SM[13]? = some (0, 400, []) := rfl
theorem sm_14 : SM[14]? = some (0, 5, []) := rfl
theorem sm_15 : SM[15]? = some (0, 5, []) := rfl
theorem sm_16 : SM[16]? = some (0, 5, []) := rfl
theorem sm_17 : SM[17]? = some (0, 5, []) := rfl
theorem sm_18 : SM[18]? = some (0, 63, []) := rfl
theorem sm_19 : SM[19]? = some (0, 5, []) := rfl
theorem sm_20 : SM[20]? = some (0, 5, []) := rfl
theorem sm_21 : SM[21]? = some (0, 63, []) := rfl
theorem sm_22 : SM[22]? = some (0, 63, []) := rfl
theorem sm_23 : SM[23]? = some (2, 63, []) := rfl
theorem sm_24 : SM[24]? = some (0, 4, []) := rfl
theorem sm_25 : SM[25]? = some (0, 4, []) := rfl
theorem sm_26 : SM[26]? = some (0, 160, []) := rfl
def IsRoad (Sh : Shp) (r : Nat) : Prop := Sh[r]? = some (7, 0, [r + 1 + 3, r + 2 + 3, r + 3 + 3, r + 4 + 3, r + 5 + 3, r + 6 + 3, r + 7 + 3, 0, 1, 0, 0, 0]) ∧ Sh[r + 1]? = some (0, 21, []) ∧ Sh[r + 2]? = some (0, 21, []) ∧ Sh[r + 3]? = some (0, 63, []) ∧ Sh[r + 4]? = some (0, 63, []) ∧ Sh[r + 5]? = some (0, 35, []) ∧ Sh[r + 6]? = some (0, 8, []) ∧ Sh[r + 7]? = some (0, 8, [])
def IsOrder (Sh : Shp) (o : Nat) : Prop := Sh[o]? = some (4, 0, [o + 1 + 3, 0]) ∧ Sh[o + 1]? = some (0, 5, [])
theorem isRoad_1 : IsRoad S88 1 := ⟨rfl, rfl, rfl, rfl, rfl, rfl, rfl, rfl⟩
theorem isRoad_9 : IsRoad S88 9 := ⟨rfl, rfl, rfl, rfl, rfl, rfl, rfl, rfl⟩
theorem isRoad_17 : IsRoad S88 17 := ⟨rfl, rfl, rfl, rfl, rfl, rfl, rfl, rfl⟩
theorem isRoad_27 : IsRoad S88 27 := ⟨rfl, rfl, rfl, rfl, rfl, rfl, rfl, rfl⟩
theorem isOrder_36 : IsOrder S88 36 := ⟨rfl, rfl⟩
theorem isOrder_44 : IsOrder S88 44 := ⟨rfl, rfl⟩
theorem isOrder_47 : IsOrder S88 47 := ⟨rfl, rfl⟩
theorem isOrder_49 : IsOrder S88 49 := ⟨rfl, rfl⟩
theorem isOrder_54 : IsOrder S88 54 := ⟨rfl, rfl⟩
theorem cls_X0 : ClsOK 0 RX0 TX0 5 tyX0 := ⟨rfl, fun w h => List.mem_filter.mpr ⟨List.mem_append_right _ ((by decide +kernel : ∀ w ∈ u_ws RX0 TX0 5, w ∈ tables_1) w h), (by decide +kernel : ∀ w ∈ u_ws RX0 TX0 5, goodWord w = true) w h⟩, tyX0_ok, nmX0, by decide +kernel⟩
theorem cls_X1 : ClsOK 1 RX1 TX1 2 tyX1 := ⟨rfl, fun w h => List.mem_filter.mpr ⟨List.mem_append_right _ ((by decide +kernel : ∀ w ∈ u_ws RX1 TX1 2, w ∈ tables_1) w h), (by decide +kernel : ∀ w ∈ u_ws RX1 TX1 2, goodWord w = true) w h⟩, tyX1_ok, nmX1, by decide +kernel⟩
theorem cls_X2 : ClsOK 2 RX2 TX2 10 tyX2 := ⟨rfl, fun w h => List.mem_filter.mpr ⟨List.mem_append_right _ ((by decide +kernel : ∀ w ∈ u_ws RX2 TX2 10, w ∈ tables_1) w h), (by decide +kernel : ∀ w ∈ u_ws RX2 TX2 10, goodWord w = true) w h⟩, tyX2_ok, nmX2, by decide +kernel⟩
theorem cls_X3 : ClsOK 3 RX3 TX3 12 tyX3 := ⟨rfl, fun w h => List.mem_filter.mpr ⟨List.mem_append_right _ ((by decide +kernel : ∀ w ∈ u_ws RX3 TX3 12, w ∈ tables_1) w h), (by decide +kernel : ∀ w ∈ u_ws RX3 TX3 12, goodWord w = true) w h⟩, tyX3_ok, nmX3, by decide +kernel⟩
theorem cls_X4 : ClsOK 4 RX4 TX4 12 tyX4 := ⟨rfl, fun w h => List.mem_filter.mpr ⟨List.mem_append_right _ ((by decide +kernel : ∀ w ∈ u_ws RX4 TX4 12, w ∈ tables_1) w h), (by decide +kernel : ∀ w ∈ u_ws RX4 TX4 12, goodWord w = true) w h⟩, tyX4_ok, nmX4, by decide +kernel⟩
theorem cls_X5 : ClsOK 5 RX5 TX5 13 tyX5 := ⟨rfl, fun w h => List.mem_filter.mpr ⟨List.mem_append_right _ ((by decide +kernel : ∀ w ∈ u_ws RX5 TX5 13, w ∈ tables_1) w h), (by decide +kernel : ∀ w ∈ u_ws RX5 TX5 13, goodWord w = true) w h⟩, tyX5_ok, nmX5, by decide +kernel⟩
theorem cls_X6 : ClsOK 6 RX6 TX6 4 tyX6 := ⟨rfl, fun w h => List.mem_filter.mpr ⟨List.mem_append_right _ ((by decide +kernel : ∀ w ∈ u_ws RX6 TX6 4, w ∈ tables_1) w h), (by decide +kernel : ∀ w ∈ u_ws RX6 TX6 4, goodWord w = true) w h⟩, tyX6_ok, nmX6, by decide +kernel⟩
theorem cls_X7 : ClsOK 7 RX7 TX7 4 tyX7 := ⟨rfl, fun w h => List.mem_filter.mpr ⟨List.mem_append_right _ ((by decide +kernel : ∀ w ∈ u_ws RX7 TX7 4, w ∈ tables_1) w h), (by decide +kernel : ∀ w ∈ u_ws RX7 TX7 4, goodWord w = true) w h⟩, tyX7_ok, nmX7, by decide +kernel⟩
theorem cls_X8 : ClsOK 8 RX8 TX8 11 tyX8 := ⟨rfl, fun w h => List.mem_filter.mpr ⟨List.mem_append_right _ ((by decide +kernel : ∀ w ∈ u_ws RX8 TX8 11, w ∈ tables_1) w h), (by decide +kernel : ∀ w ∈ u_ws RX8 TX8 11, goodWord w = true) w h⟩, tyX8_ok, nmX8, by decide +kernel⟩
theorem cls_X9 : ClsOK 9 RX9 TX9 40 tyX9 := ⟨rfl, fun w h => List.mem_filter.mpr ⟨List.mem_append_right _ ((by decide +kernel : ∀ w ∈ u_ws RX9 TX9 40, w ∈ tables_1) w h), (by decide +kernel : ∀ w ∈ u_ws RX9 TX9 40, goodWord w = true) w h⟩, tyX9_ok, nmX9, by decide +kernel⟩
theorem pn_J0 : plainName RJ0 = true := by decide +kernel
theorem pn_J1 : plainName RJ1 = true := by decide +kernel
theorem pn_J2 : plainName RJ2 = true := by decide +kernel
theorem pn_J3 : plainName RJ3 = true := by decide +kernel
theorem pn_J6 : plainName RJ6 = true := by decide +kernel
theorem pn_X0 : plainName RX0 = true := by decide +kernel
theorem pn_X1 : plainName RX1 = true := by decide +kernel
theorem pn_X2 : plainName RX2 = true := by decide +kernel
theorem pn_X3 : plainName RX3 = true := by decide +kernel
theorem pn_X4 : plainName RX4 = true := by decide +kernel
theorem pn_X5 : plainName RX5 = true := by decide +kernel
theorem pn_X6 : plainName RX6 = true := by decide +kernel
theorem pn_X7 : plainName RX7 = true := by decide +kernel
theorem pn_X8 : plainName RX8 = true := by decide +kernel
theorem pn_X9 : plainName RX9 = true := by decide +kernel
theorem sp_go {β : Type} {l : Launch} {G : Nv} {Sh : Shp} {M : MD} {as : List MV} {μ : Mem} {o : Option β} {J : β → Option MV × Mem} {lv : List (Option MV)} (hy : plainName M.1.cls = true) (hlen : (as.flatMap fun v => if catv v = 2 then [some v, none] else [some v]).length ≤ M.2.2.1) (he : ent as M.2.2.1 = lv) (h : SR l G Sh M o J 0 lv [] μ) : SP l G Sh M as μ o J := sp_sr hy hlen (he ▸ h)
def ldT (f : List Int) (i : Int) : Option Int := if 0 ≤ i ∧ i < f.length then some (f.getD i.toNat 0) else none
theorem sr_tib {l : Launch} {G : Nv} {Sh : Shp} {M : MD} {β : Type} {J : β → Option MV × Mem} {pc pc' : Nat} {lv : List (Option MV)} {st : List MV} {μ : Mem} {a : Nat} {i : Int} {f : List Int} {g : Int → Option β} (hd : decode M.2.1 pc = .ok (.iaload, 1)) (hp : pc + 1 = pc') (he : (a, FieldType.int, f) ∈ roArr) (hn : f.length < 2147483648) (hf : ∀ x ∈ f, C32 x) (k : ∀ v, SR l G Sh M (g v) J pc' lv (vI v :: st) μ) : SR l G Sh M ((ldT f i).bind g) J pc lv (vI i :: vR a :: st) μ := fun b hb => by
  unfold ldT at hb
  split at hb
  · rename_i h
    exact ra_ti hd hp he hn hf h.1 h.2 (k _ b hb)
  · cases hb
theorem sr_tbb {l : Launch} {G : Nv} {Sh : Shp} {M : MD} {β : Type} {J : β → Option MV × Mem} {pc pc' : Nat} {lv : List (Option MV)} {st : List MV} {μ : Mem} {j : Nat} {i : Int} {g : Int → Option β} (hd : decode M.2.1 pc = .ok (.baload, 1)) (hp : pc + 1 = pc') (hj : j < 14) (k : ∀ v, SR l G Sh M (g v) J pc' lv (vI v :: st) μ) : SR l G Sh M ((ldT (roTx.getD j []) i).bind g) J pc lv (vI i :: vR (120 + j) :: st) μ := fun b hb => by
  unfold ldT at hb
  split at hb
  · rename_i h
    exact ra_tb hd hp hj h.1 h.2 (k _ b hb)
  · cases hb
theorem ra_aload_N {l : Launch} {G : Nv} {Sh : Shp} {M : MD} {Q : Option MV → Mem → Prop} {pc pc' : Nat} {lv : List (Option MV)} {st : List MV} {μ : Mem} {j : Fin 4} {i : Nat} (hd : decode M.2.1 pc = .ok (.aload_n j, 1)) (hp : pc + 1 = pc') (hj : (j : Nat) = i) (hg : lv[i]? = some (some vN)) (k : RA l G Sh M Q pc' lv (vN :: st) μ) : RA l G Sh M Q pc lv st μ := by
  subst hp
  refine ra_go (st' := vN :: st) (fun hos hol hm => List.forall_mem_cons.mpr ⟨trivial, hos⟩) ?_ k
  intro p e s m args below meth c H locs ls QQ X hP hS hl hm hol hos kk
  have hv := hl.2.2 _ (lvl_mem (G := G) hg)
  have kk : W p l e (rmM M) s m args below meth c H locs 0 0 QQ (F0 m (pc + 1) ls (va_rf G.2.2.2 :: st.map (rv G))) := kk
  have hv : ls[i]? = some (.val (va_rf G.2.2.2)) := hv
  cases hx : G.2.2.2 with
  | none =>
    rw [hx] at hv kk
    exact lv_aload_nN X.1 X.2.1 hd hj hv kk
  | some a =>
    rw [hx] at hv kk
    exact lv_aload_n X.1 X.2.1 hd hj hv kk
theorem sr_aload_N {l : Launch} {G : Nv} {Sh : Shp} {M : MD} {β : Type} {o : Option β} {J : β → Option MV × Mem} {pc pc' : Nat} {lv : List (Option MV)} {st : List MV} {μ : Mem} {j : Fin 4} {i : Nat} (hd : decode M.2.1 pc = .ok (.aload_n j, 1)) (hp : pc + 1 = pc') (hj : (j : Nat) = i) (hg : lv[i]? = some (some vN)) (k : SR l G Sh M o J pc' lv (vN :: st) μ) : SR l G Sh M o J pc lv st μ := fun b hb => ra_aload_N hd hp hj hg (k b hb)
def cN (x : Int) : Int := match narrow .char (.int (Int32.ofInt x)) with
  | .int v => v.toInt
  | _ => 0
theorem sr_iretC2 {l : Launch} {G : Nv} {Sh : Shp} {M : MD} {pc : Nat} {lv : List (Option MV)} {μ : Mem} {β : Type} {r : β} {J : β → Option MV × Mem} {x : Int} (hd : decode M.2.1 pc = .ok (.ireturn, 1)) (hr : M.2.2.2.1 = some .char) (hJ : (some (vI (i2c x)), μ) = J r) : SR l G Sh M (some r) J pc lv [vI (i2c x)] μ := sr_iret hd hr (by unfold i2c; rw [Int32.ofInt_toInt]; exact pk_nc _) (fun h => by cases h) hJ
theorem narrow_cN (x : Int) : narrow .char (.int (Int32.ofInt x)) = .int (Int32.ofInt (cN x)) := by
  unfold cN
  simp [narrow]
theorem ra_iretC {l : Launch} {G : Nv} {Sh : Shp} {M : MD} {Q : Option MV → Mem → Prop} {pc : Nat} {lv : List (Option MV)} {μ : Mem} {x : Int} (hd : decode M.2.1 pc = .ok (.ireturn, 1)) (hr : M.2.2.2.1 = some .char) (hQ : Q (some (vI (cN x))) μ) : RA l G Sh M Q pc lv [vI x] μ := by
  intro p e s m args below meth c H locs ls X hP hD hS hl hn hm hol hos
  have hC : C32 (cN x) := by
    unfold cN
    split
    · exact i32_C _
    · decide
  exact W_nret (v := Int32.ofInt x) X.1 X.2.1 (X.2.2.2.1.trans hr) (narrow_cN x) (fun t ht hW => ⟨⟨some (vI (cN x)), μ, rfl, hQ, ⟨hC, fun h => by rw [hr] at h; cases h⟩, hm, by rw [ht]; exact hP, va_K.moved hW.alike X.2.2.2.2.2.2.2.1, hD⟩, hS.F ht⟩) hS.2.2 hd X.2.2.2.2.1
theorem sr_iretC {l : Launch} {G : Nv} {Sh : Shp} {M : MD} {pc : Nat} {lv : List (Option MV)} {μ : Mem} {β : Type} {r : β} {J : β → Option MV × Mem} {x : Int} (hd : decode M.2.1 pc = .ok (.ireturn, 1)) (hr : M.2.2.2.1 = some .char) (hJ : (some (vI (cN x)), μ) = J r) : SR l G Sh M (some r) J pc lv [vI x] μ := fun b hb => ra_iretC hd hr (by cases hb; exact hJ)
def iMax (x y : Int) : Int := if x < y then y else x
theorem mmax_w : (Cond.static Lib.Math.max.name ∈ TBL ∧ Cond.initialized "java/lang/Math" ∈ TBL) ∧ Cond.code Lib.Math.max.name Lib.Math.max.code 2 (some .int) ∈ TBL := ⟨⟨w_912, w_913⟩, tw3 16 (by decide +kernel) (by decide +kernel)⟩
theorem ra_mmax {l : Launch} {G : Nv} {Sh : Shp} {M : MD} {Q : Option MV → Mem → Prop} {pc pc' : Nat} {lv : List (Option MV)} {st : List MV} {μ : Mem} {x y : Int} {idx : Nat} (hd : decode M.2.1 pc = .ok (.invokestatic idx, 3)) (hp : pc + 3 = pc') (hw : Cond.methodLink M.1.cls idx ⟨"java/lang/Math", "max", "(II)I"⟩ ∈ TBL) (hfr : 1 ≤ M.2.2.2.2.1) (hlo : 21 ≤ M.2.2.2.2.2) (hst : (st.map catv).sum ≤ 8) (k : RA l G Sh M Q pc' lv (vI (iMax x y) :: st) μ) : RA l G Sh M Q pc lv (vI y :: vI x :: st) μ := by
  subst hp
  refine ra_go (st' := vI (iMax x y) :: st) (fun hos hol hm => List.forall_mem_cons.mpr ⟨?_, fun v hv => hos v (List.mem_cons_of_mem _ (List.mem_cons_of_mem _ hv))⟩) ?_ k
  · show C32 (iMax x y)
    unfold iMax
    split
    · exact hos _ List.mem_cons_self
    · exact hos _ (List.mem_cons_of_mem _ List.mem_cons_self)
  · intro p e s m args below meth c H locs ls QQ X hP hS hl hm hol hos kk
    have hy : C32 y := hos _ List.mem_cons_self
    have hx : C32 x := hos _ (List.mem_cons_of_mem _ List.mem_cons_self)
    have T := fun w hw => X.2.2.2.2.2.2.1 w (List.mem_cons_of_mem _ hw)
    show W p l e (rmM M) s m args below meth c H locs 0 0 _ (F0 m pc ls (.int (Int32.ofInt y) :: .int (Int32.ofInt x) :: st.map (rv G)))
    refine va_mmax X.1 X.2.1 (X.2.2.1.trans hl.1.symm) X.2.2.2.2.2.1 (T _ hw) (T _ mmax_w.1.1) (T _ mmax_w.1.2) (T _ mmax_w.2) hfr (Nat.le_trans (Nat.add_le_add_right (cat_sum hst) 13) hlo) (Nat.le_refl 0) (Nat.le_refl 0) hd ?_
    have e1 : (if Int32.ofInt x < Int32.ofInt y then Int32.ofInt y else Int32.ofInt x) = Int32.ofInt (iMax x y) := by
      unfold iMax
      by_cases h : x < y
      · rw [if_pos h, if_pos ((i32_lt hx hy).mpr h)]
      · rw [if_neg h, if_neg (fun z => h ((i32_lt hx hy).mp z))]
    rw [e1]
    exact kk
theorem sr_mmax {l : Launch} {G : Nv} {Sh : Shp} {M : MD} {β : Type} {o : Option β} {J : β → Option MV × Mem} {pc pc' : Nat} {lv : List (Option MV)} {st : List MV} {μ : Mem} {x y : Int} {idx : Nat} (hd : decode M.2.1 pc = .ok (.invokestatic idx, 3)) (hp : pc + 3 = pc') (hw : Cond.methodLink M.1.cls idx ⟨"java/lang/Math", "max", "(II)I"⟩ ∈ TBL) (hfr : 1 ≤ M.2.2.2.2.1) (hlo : 21 ≤ M.2.2.2.2.2) (hst : (st.map catv).sum ≤ 8) (k : SR l G Sh M o J pc' lv (vI (iMax x y) :: st) μ) : SR l G Sh M o J pc lv (vI y :: vI x :: st) μ := fun b hb => ra_mmax hd hp hw hfr hlo hst (k b hb)
def iMin (x y : Int) : Int := if y < x then y else x
theorem mmin_w : (Cond.static Lib.Math.min.name ∈ TBL ∧ Cond.initialized "java/lang/Math" ∈ TBL) ∧ Cond.code Lib.Math.min.name Lib.Math.min.code 2 (some .int) ∈ TBL := ⟨⟨w_914, w_913⟩, tw3 212 (by decide +kernel) (by decide +kernel)⟩
theorem ra_mmin {l : Launch} {G : Nv} {Sh : Shp} {M : MD} {Q : Option MV → Mem → Prop} {pc pc' : Nat} {lv : List (Option MV)} {st : List MV} {μ : Mem} {x y : Int} {idx : Nat} (hd : decode M.2.1 pc = .ok (.invokestatic idx, 3)) (hp : pc + 3 = pc') (hw : Cond.methodLink M.1.cls idx ⟨"java/lang/Math", "min", "(II)I"⟩ ∈ TBL) (hfr : 1 ≤ M.2.2.2.2.1) (hlo : 21 ≤ M.2.2.2.2.2) (hst : (st.map catv).sum ≤ 8) (k : RA l G Sh M Q pc' lv (vI (iMin x y) :: st) μ) : RA l G Sh M Q pc lv (vI y :: vI x :: st) μ := by
  subst hp
  refine ra_go (st' := vI (iMin x y) :: st) (fun hos hol hm => List.forall_mem_cons.mpr ⟨?_, fun v hv => hos v (List.mem_cons_of_mem _ (List.mem_cons_of_mem _ hv))⟩) ?_ k
  · show C32 (iMin x y)
    unfold iMin
    split
    · exact hos _ List.mem_cons_self
    · exact hos _ (List.mem_cons_of_mem _ List.mem_cons_self)
  · intro p e s m args below meth c H locs ls QQ X hP hS hl hm hol hos kk
    have hy : C32 y := hos _ List.mem_cons_self
    have hx : C32 x := hos _ (List.mem_cons_of_mem _ List.mem_cons_self)
    have T := fun w hw => X.2.2.2.2.2.2.1 w (List.mem_cons_of_mem _ hw)
    show W p l e (rmM M) s m args below meth c H locs 0 0 _ (F0 m pc ls (.int (Int32.ofInt y) :: .int (Int32.ofInt x) :: st.map (rv G)))
    refine va_mmin X.1 X.2.1 (X.2.2.1.trans hl.1.symm) X.2.2.2.2.2.1 (T _ hw) (T _ mmin_w.1.1) (T _ mmin_w.1.2) (T _ mmin_w.2) hfr (Nat.le_trans (Nat.add_le_add_right (cat_sum hst) 13) hlo) (Nat.le_refl 0) (Nat.le_refl 0) hd ?_
    have e1 : (if Int32.ofInt y < Int32.ofInt x then Int32.ofInt y else Int32.ofInt x) = Int32.ofInt (iMin x y) := by
      unfold iMin
      by_cases h : y < x
      · rw [if_pos h, if_pos ((i32_lt hy hx).mpr h)]
      · rw [if_neg h, if_neg (fun z => h ((i32_lt hy hx).mp z))]
    rw [e1]
    exact kk
theorem sr_mmin {l : Launch} {G : Nv} {Sh : Shp} {M : MD} {β : Type} {o : Option β} {J : β → Option MV × Mem} {pc pc' : Nat} {lv : List (Option MV)} {st : List MV} {μ : Mem} {x y : Int} {idx : Nat} (hd : decode M.2.1 pc = .ok (.invokestatic idx, 3)) (hp : pc + 3 = pc') (hw : Cond.methodLink M.1.cls idx ⟨"java/lang/Math", "min", "(II)I"⟩ ∈ TBL) (hfr : 1 ≤ M.2.2.2.2.1) (hlo : 21 ≤ M.2.2.2.2.2) (hst : (st.map catv).sum ≤ 8) (k : SR l G Sh M o J pc' lv (vI (iMin x y) :: st) μ) : SR l G Sh M o J pc lv (vI y :: vI x :: st) μ := fun b hb => ra_mmin hd hp hw hfr hlo hst (k b hb)

