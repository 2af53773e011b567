theorem ws_0 : Cond.stringRef "WheelsWidths$Reader" 103 "yards" ∈ lw_tbl := List.mem_append_right _ (inc2 _ (List.mem_of_getElem? (i := 180) (by decide +kernel)))
theorem ws_1 : Cond.stringRef "WheelsWidths$Reader" 112 "bog" ∈ lw_tbl := List.mem_append_right _ (inc3 _ (List.mem_of_getElem? (i := 5) (by decide +kernel)))
theorem ws_2 : Cond.stringRef "WheelsWidths$Reader" 117 "hill" ∈ lw_tbl := List.mem_append_right _ (inc3 _ (List.mem_of_getElem? (i := 25) (by decide +kernel)))
theorem ws_3 : Cond.stringRef "WheelsWidths$Reader" 122 "smith" ∈ lw_tbl := List.mem_append_right _ (inc3 _ (List.mem_of_getElem? (i := 42) (by decide +kernel)))
theorem ws_4 : Cond.stringRef "WheelsWidths$Reader" 127 "toll" ∈ lw_tbl := List.mem_append_right _ (inc3 _ (List.mem_of_getElem? (i := 55) (by decide +kernel)))
theorem ws_5 : Cond.stringRef "WheelsWidths$Reader" 132 "rut" ∈ lw_tbl := List.mem_append_right _ (inc3 _ (List.mem_of_getElem? (i := 64) (by decide +kernel)))
theorem ws_6 : Cond.stringRef "WheelsWidths$Reader" 137 "frost" ∈ lw_tbl := List.mem_append_right _ (inc3 _ (List.mem_of_getElem? (i := 69) (by decide +kernel)))
theorem ws_7 : Cond.stringRef "WheelsWidths$Reader" 142 "cart" ∈ lw_tbl := List.mem_append_right _ (inc3 _ (List.mem_of_getElem? (i := 83) (by decide +kernel)))
theorem ws_8 : Cond.stringRef "WheelsWidths$Reader" 147 "cost" ∈ lw_tbl := List.mem_append_right _ (inc3 _ (List.mem_of_getElem? (i := 117) (by decide +kernel)))
theorem ws_9 : Cond.stringRef "WheelsWidths$Reader" 224 "plain" ∈ lw_tbl := List.mem_append_right _ (inc3 _ (List.mem_of_getElem? (i := 92) (by decide +kernel)))
theorem ws_10 : Cond.stringRef "WheelsWidths$Reader" 226 "double" ∈ lw_tbl := List.mem_append_right _ (inc3 _ (List.mem_of_getElem? (i := 93) (by decide +kernel)))
theorem ws_11 : Cond.stringRef "WheelsWidths$Reader" 228 "sledge" ∈ lw_tbl := List.mem_append_right _ (inc3 _ (List.mem_of_getElem? (i := 94) (by decide +kernel)))
theorem ws_12 : Cond.stringRef "WheelsWidths$Reader" 230 "hired" ∈ lw_tbl := List.mem_append_right _ (inc3 _ (List.mem_of_getElem? (i := 95) (by decide +kernel)))
theorem ws_13 : Cond.stringRef "WheelsWidths$Reader" 232 "smuggler" ∈ lw_tbl := List.mem_append_right _ (inc3 _ (List.mem_of_getElem? (i := 96) (by decide +kernel)))
theorem ws_14 : Cond.instantiable "WheelsWidths$Fitting" 5 ∈ lw_tbl := List.mem_append_right _ (inc2 _ (List.mem_of_getElem? (i := 40) (by decide +kernel)))
theorem ws_15 : Cond.instantiable "WheelsWidths$Order" 2 ∈ lw_tbl := List.mem_append_right _ (inc1 _ (List.mem_of_getElem? (i := 152) (by decide +kernel)))
theorem ws_16 : Cond.instantiable "WheelsWidths$Plans" 10 ∈ lw_tbl := List.mem_append_right _ (inc1 _ (List.mem_of_getElem? (i := 217) (by decide +kernel)))
theorem ws_17 : Cond.instantiable "WheelsWidths$Reader" 12 ∈ lw_tbl := List.mem_append_right _ (inc1 _ (List.mem_of_getElem? (i := 96) (by decide +kernel)))
theorem ws_18 : Cond.instantiable "WheelsWidths$Road" 12 ∈ lw_tbl := List.mem_append_right _ (inc1 _ (List.mem_of_getElem? (i := 26) (by decide +kernel)))
theorem ws_19 : Cond.instantiable "WheelsWidths$Run" 13 ∈ lw_tbl := List.mem_append_right _ (inc1 _ (List.mem_of_getElem? (i := 146) (by decide +kernel)))
theorem ws_20 : Cond.instantiable "WheelsWidths$Sheets" 4 ∈ lw_tbl := List.mem_append_right _ (inc2 _ (List.mem_of_getElem? (i := 67) (by decide +kernel)))
theorem ws_21 : Cond.instantiable "WheelsWidths$Ways" 4 ∈ lw_tbl := List.mem_append_right _ (inc2 _ (List.mem_of_getElem? (i := 21) (by decide +kernel)))
theorem ws_22 : Cond.instantiable "WheelsWidths" 11 ∈ lw_tbl := List.mem_append_right _ (inc1 _ (List.mem_of_getElem? (i := 18) (by decide +kernel)))
theorem ws_23 : Cond.instantiable "WheelsWidthsModel" 40 ∈ lw_tbl := List.mem_append_right _ (inc5 _ (List.mem_of_getElem? (i := 128) (by decide +kernel)))
theorem ws_24 : Cond.arrayClass .int ∈ lw_tbl := List.mem_append_right _ (inc1 _ (List.mem_of_getElem? (i := 94) (by decide +kernel)))
theorem ws_25 : Cond.arrayClass .byte ∈ lw_tbl := List.mem_append_right _ (inc1 _ (List.mem_of_getElem? (i := 144) (by decide +kernel)))
theorem ws_26 : Cond.arrayClass .boolean ∈ lw_tbl := List.mem_append_right _ (inc6 _ (List.mem_of_getElem? (i := 22) (by decide +kernel)))
theorem ws_27 : Cond.laysStatic "WheelsWidths" "PART_LEAST" "[I" ∈ lw_tbl := List.mem_append_right _ (inc3 _ (List.mem_of_getElem? (i := 109) (by decide +kernel)))
theorem ws_28 : Cond.initialized "WheelsWidths" ∈ lw_tbl := List.mem_append_right _ (inc1 _ (List.mem_of_getElem? (i := 1) (by decide +kernel)))
theorem ws_29 : Cond.laysStatic "WheelsWidths" "PART_MOST" "[I" ∈ lw_tbl := List.mem_append_right _ (inc3 _ (List.mem_of_getElem? (i := 112) (by decide +kernel)))
theorem ws_30 : Cond.laysStatic "java/lang/String" "COMPACT_STRINGS" "Z" ∈ lw_tbl := List.mem_append_right _ (inc2 _ (List.mem_of_getElem? (i := 194) (by decide +kernel)))
theorem ws_31 : Cond.initialized "java/lang/String" ∈ lw_tbl := List.mem_append_right _ (inc1 _ (List.mem_of_getElem? (i := 11) (by decide +kernel)))
theorem ws_32 : Cond.laysStatic "jdk/internal/util/Preconditions" "SIOOBE_FORMATTER" "Ljava/util/function/BiFunction;" ∈ lw_tbl := List.mem_append_right _ (inc2 _ (List.mem_of_getElem? (i := 210) (by decide +kernel)))
theorem ws_33 : Cond.initialized "jdk/internal/util/Preconditions" ∈ lw_tbl := List.mem_append_right _ (inc1 _ (List.mem_of_getElem? (i := 13) (by decide +kernel)))
abbrev FL : List Cond := flatC (Jvm.Cond.and given_1 narrow_1)
def sidx : List Nat := [103, 112, 117, 122, 127, 132, 137, 142, 147, 224, 226, 228, 230, 232]
def stm (i : Nat) : Term := .string "WheelsWidths$Reader" (sidx.getD i 0)
theorem fl_ex : ∀ i, i < 14 → Cond.exactly (stm i) "java/lang/String" ∈ FL := by decide +kernel
theorem fl_co : ∀ i, i < 14 → Cond.eq (.field (stm i) "java/lang/String" "coder" "B") (.int 0) ∈ FL := by decide +kernel
theorem fl_ar : ∀ i, i < 14 → Cond.arrayOf (.field (stm i) "java/lang/String" "value" "[B") .byte ∈ FL := by decide +kernel
theorem fl_le : ∀ i, i < 14 → Cond.eq (.length (.field (stm i) "java/lang/String" "value" "[B")) (.int (Int32.ofNat ((roTx.map List.length).getD i 0))) ∈ FL := by decide +kernel
theorem fl_el : ∀ i, i < 14 → ∀ j, j < (roTx.map List.length).getD i 0 → Cond.eq (.elem (.field (stm i) "java/lang/String" "value" "[B") (.int (Int32.ofNat j))) (.int (((roTx.map (fun t => t.map Int32.ofInt)).getD i []).getD j 0)) ∈ FL := by decide +kernel
theorem fl_ne0 : ∀ j, j < 14 → 0 < j → Cond.not (Cond.eq (stm 0) (stm j)) ∈ FL := by decide +kernel
theorem fl_ne1 : ∀ j, j < 14 → 1 < j → Cond.not (Cond.eq (stm 1) (stm j)) ∈ FL := by decide +kernel
theorem fl_ne2 : ∀ j, j < 14 → 2 < j → Cond.not (Cond.eq (stm 2) (stm j)) ∈ FL := by decide +kernel
theorem fl_ne3 : ∀ j, j < 14 → 3 < j → Cond.not (Cond.eq (stm 3) (stm j)) ∈ FL := by decide +kernel
theorem fl_ne4 : ∀ j, j < 14 → 4 < j → Cond.not (Cond.eq (stm 4) (stm j)) ∈ FL := by decide +kernel
theorem fl_ne5 : ∀ j, j < 14 → 5 < j → Cond.not (Cond.eq (stm 5) (stm j)) ∈ FL := by decide +kernel
theorem fl_ne6 : ∀ j, j < 14 → 6 < j → Cond.not (Cond.eq (stm 6) (stm j)) ∈ FL := by decide +kernel
theorem fl_ne7 : ∀ j, j < 14 → 7 < j → Cond.not (Cond.eq (stm 7) (stm j)) ∈ FL := by decide +kernel
theorem fl_ne8 : ∀ j, j < 14 → 8 < j → Cond.not (Cond.eq (stm j) (stm 8)) ∈ FL := by decide +kernel
theorem fl_ne9 : ∀ j, j < 14 → 9 < j → Cond.not (Cond.eq (stm 9) (stm j)) ∈ FL := by decide +kernel
theorem fl_ne10 : ∀ j, j < 14 → 10 < j → Cond.not (Cond.eq (stm 10) (stm j)) ∈ FL := by decide +kernel
theorem fl_ne11 : ∀ j, j < 14 → 11 < j → Cond.not (Cond.eq (stm 11) (stm j)) ∈ FL := by decide +kernel
theorem fl_ne12 : ∀ j, j < 14 → 12 < j → Cond.not (Cond.eq (stm 12) (stm j)) ∈ FL := by decide +kernel
theorem fl_ne (i j : Nat) (hi : i < 14) (hj : j < 14) (h : i < j) : Cond.not (Cond.eq (stm i) (stm j)) ∈ FL ∨ Cond.not (Cond.eq (stm j) (stm i)) ∈ FL := by
  match i, hi with
  | 0, _ => exact Or.inl (fl_ne0 j hj h)
  | 1, _ => exact Or.inl (fl_ne1 j hj h)
  | 2, _ => exact Or.inl (fl_ne2 j hj h)
  | 3, _ => exact Or.inl (fl_ne3 j hj h)
  | 4, _ => exact Or.inl (fl_ne4 j hj h)
  | 5, _ => exact Or.inl (fl_ne5 j hj h)
  | 6, _ => exact Or.inl (fl_ne6 j hj h)
  | 7, _ => exact Or.inl (fl_ne7 j hj h)
  | 8, _ => exact Or.inr (fl_ne8 j hj h)
  | 9, _ => exact Or.inl (fl_ne9 j hj h)
  | 10, _ => exact Or.inl (fl_ne10 j hj h)
  | 11, _ => exact Or.inl (fl_ne11 j hj h)
  | 12, _ => exact Or.inl (fl_ne12 j hj h)
  | 13, _ => omega
  | i + 14, hi => omega
theorem fl_90 : (Cond.arrayOf (.static "WheelsWidths" "PART_LEAST" "[I") .int ∈ FL ∧ Cond.eq (.length (.static "WheelsWidths" "PART_LEAST" "[I")) (.int (Int32.ofNat 7)) ∈ FL) ∧ ∀ j, j < 7 → Cond.eq (.elem (.static "WheelsWidths" "PART_LEAST" "[I") (.int (Int32.ofNat j))) (.int (Int32.ofInt ([0, 0, 1, 0, 0, 0, 0].getD j 0))) ∈ FL := by decide +kernel
theorem fl_91 : (Cond.arrayOf (.static "WheelsWidths" "PART_MOST" "[I") .int ∈ FL ∧ Cond.eq (.length (.static "WheelsWidths" "PART_MOST" "[I")) (.int (Int32.ofNat 7)) ∈ FL) ∧ ∀ j, j < 7 → Cond.eq (.elem (.static "WheelsWidths" "PART_MOST" "[I") (.int (Int32.ofNat j))) (.int (Int32.ofInt ([4, 2, 9, 30, 20, 20, 20].getD j 0))) ∈ FL := by decide +kernel
theorem fl_cs : Cond.eq (.static "java/lang/String" "COMPACT_STRINGS" "Z") (.int 1) ∈ FL ∧ Cond.isRef (.static "jdk/internal/util/Preconditions" "SIOOBE_FORMATTER" "Ljava/util/function/BiFunction;") ∈ FL := by decide +kernel
theorem start_amb {s : State} {args : Array Value} (b : Nat) (hs : ∀ c ∈ FL, c.before args s = true) (hts : ∀ w ∈ lw_tbl, w.before args s = true) : ∃ (ad : Nat → Nat) (o : Option Nat), ad 150 = b ∧ ∀ (D : va_G) (cA : Nat → ClassId) (q : Nat → Nat), (∀ k, 90 ≤ k → q k = ad k) → Amb (D, q, cA, o) (fun a => s.heap.size ≤ a) s s.heap := by
  have hA : ∀ a : Nat, a < s.heap.size → ¬ (s.heap.size ≤ a) := fun a h => Nat.not_le.mpr h
  obtain ⟨adK, adV, hS, hK⟩ := vk_Sof (args := args) (s := s) (N := 14) (tm := stm) (len := roTx.map List.length) (byt := roTx.map (fun t => t.map Int32.ofInt)) (A := fun a => s.heap.size ≤ a) (by decide) (fun i hi => hs _ (fl_ex i hi)) (fun i hi => hs _ (fl_co i hi)) (fun i hi => hs _ (fl_ar i hi)) (fun i hi => hs _ (fl_le i hi)) (fun i hi j hj => hs _ (fl_el i hi j hj)) (fun i j hi hj hij => (Nat.lt_or_gt_of_ne hij).elim (fun h => (fl_ne i j hi hj h).imp (hs _) (hs _)) (fun h => ((fl_ne j i hj hi h).imp (hs _) (hs _)).symm)) hA
  obtain ⟨t0, ht0, hT0⟩ := va_Tof (args := args) (s := s) (f := fun j => .int (Int32.ofInt ([0, 0, 1, 0, 0, 0, 0].getD j 0))) (A := fun a => s.heap.size ≤ a) (N := 7) (by decide) (hs _ fl_90.1.1) (va_eqt (hs _ fl_90.1.2)) (fun j hj => va_eqt (hs _ (fl_90.2 j hj))) hA
  obtain ⟨t1, ht1, hT1⟩ := va_Tof (args := args) (s := s) (f := fun j => .int (Int32.ofInt ([4, 2, 9, 30, 20, 20, 20].getD j 0))) (A := fun a => s.heap.size ≤ a) (N := 7) (by decide) (hs _ fl_91.1.1) (va_eqt (hs _ fl_91.1.2)) (fun j hj => va_eqt (hs _ (fl_91.2 j hj))) hA
  have hZ0 := va_Zref (A := fun a => s.heap.size ≤ a) (hts _ ws_27) (hts _ ws_28) ht0 hA
  have hZ1 := va_Zref (A := fun a => s.heap.size ≤ a) (hts _ ws_29) (hts _ ws_28) ht1 hA
  have hZ2 := va_Zof (A := fun a => s.heap.size ≤ a) (hts _ ws_30) (hts _ ws_31) (va_eqt (hs _ fl_cs.1)) hA
  have hZ3 := va_Zqof (A := fun a => s.heap.size ≤ a) (hts _ ws_32) (hts _ ws_33) (hs _ fl_cs.2) hA
  obtain ⟨o, hZ3⟩ : ∃ o : Option Nat, va_Z "jdk/internal/util/Preconditions" "SIOOBE_FORMATTER" "Ljava/util/function/BiFunction;" (va_rf o) (fun a => s.heap.size ≤ a) s s.heap := by
    rcases hZ3 with h | ⟨t, h⟩
    · exact ⟨none, h⟩
    · exact ⟨some t, h⟩
  refine ⟨fun k => if k = 150 then b else if k = 90 then t0 else if k = 91 then t1 else if k < 120 then adK (k - 100) else adV (k - 120), o, if_pos rfl, ?_⟩
  intro D cA q hq
  have e90 : q 90 = t0 := by rw [hq 90 (by omega)]; rfl
  have e91 : q 91 = t1 := by rw [hq 91 (by omega)]; rfl
  have eK : ∀ i, i < 14 → q (100 + i) = adK i := fun i hi => by
    rw [hq _ (by omega)]; dsimp only; rw [if_neg (by omega), if_neg (by omega), if_neg (by omega), if_pos (by omega), Nat.add_sub_cancel_left]
  have eV : ∀ i, i < 14 → q (120 + i) = adV i := fun i hi => by
    rw [hq _ (by omega)]; dsimp only; rw [if_neg (by omega), if_neg (by omega), if_neg (by omega), if_neg (by omega), Nat.add_sub_cancel_left]
  refine ⟨fun w hw hn => ?_, fun z hz => ?_, fun r hr => ?_, ⟨fun i hi => ?_, fun i j hi hj h => ?_⟩, fun r hr => ?_⟩
  · have h := hts w (List.mem_append_right _ hw)
    unfold isNest at hn
    split at hn
    · exact va_Nw.of rfl h
    · exact va_Nw.of rfl h
    · cases hn
  · simp only [roStat, e90, e91, List.mem_cons, List.not_mem_nil, or_false] at hz
    rcases hz with rfl | rfl | rfl | rfl
    · exact hZ0
    · exact hZ1
    · exact hZ2
    · exact hZ3
  · simp only [roArr, List.mem_cons, List.not_mem_nil, or_false] at hr
    rcases hr with rfl | rfl
    · show va_T .int (q 90) 7 _ _ _ _
      rw [e90]; exact hT0
    · show va_T .int (q 91) 7 _ _ _ _
      rw [e91]; exact hT1
  · show va_O _ (q (100 + i)) _ _ _ ∧ va_OF _ _ _ _ (q (100 + i)) _ _ _ ∧ va_OF _ _ _ (.ref (q (120 + i))) (q (100 + i)) _ _ _ ∧ va_T .byte (q (120 + i)) _ _ _ _ _
    rw [eK i hi, eV i hi]
    exact hS.1 i hi
  · exact hS.2 i j hi hj (by rw [← eK i hi, ← eK j hj]; exact h)
  · have hr' : r.2.2 < 14 ∧ sidx.getD r.2.2 0 = r.1 ∧ (Cond.stringRef "WheelsWidths$Reader" r.1 r.2.1 ∈ lw_tbl) := by
      simp only [roStr, List.mem_cons, List.not_mem_nil, or_false] at hr
      rcases hr with rfl | rfl | rfl | rfl | rfl | rfl | rfl | rfl | rfl | rfl | rfl | rfl | rfl | rfl
      · exact ⟨by decide, rfl, ws_0⟩
      · exact ⟨by decide, rfl, ws_1⟩
      · exact ⟨by decide, rfl, ws_2⟩
      · exact ⟨by decide, rfl, ws_3⟩
      · exact ⟨by decide, rfl, ws_4⟩
      · exact ⟨by decide, rfl, ws_5⟩
      · exact ⟨by decide, rfl, ws_6⟩
      · exact ⟨by decide, rfl, ws_7⟩
      · exact ⟨by decide, rfl, ws_8⟩
      · exact ⟨by decide, rfl, ws_9⟩
      · exact ⟨by decide, rfl, ws_10⟩
      · exact ⟨by decide, rfl, ws_11⟩
      · exact ⟨by decide, rfl, ws_12⟩
      · exact ⟨by decide, rfl, ws_13⟩
    show vk_R _ r.1 r.2.1 (q (100 + r.2.2)) s
    rw [eK _ hr'.1]
    refine vk_R.of (hts _ hr'.2.2) ?_
    have h := hK _ hr'.1
    unfold stm at h
    rw [hr'.2.1] at h
    exact h
theorem start_cls {s : State} {args : Array Value} (hts : ∀ w ∈ lw_tbl, w.before args s = true) : ∃ D : va_G, ∀ (k : Nat) (q : vw_C), vwCl[k]? = some q → u_Kn s q.1 q.2.1 q.2.2 (D.1 k) (D.2 k) := by
  have h : ∀ k : Nat, ∃ p : ClassId × (Nat → Nat), ∀ q : vw_C, vwCl[k]? = some q → u_Kn s q.1 q.2.1 q.2.2 p.1 p.2 := by
    intro k
    match k with
    | 0 =>
      obtain ⟨c, f, hk⟩ := u_known (C := RX0) (T := TX0) (N := 5) (n := 5) hts (fun w hw => (List.mem_filter.mp (cls_X0.2.1 w hw)).1) (hts _ ws_14)
      exact ⟨(c, f), fun q hq => by cases hq; exact hk⟩
    | 1 =>
      obtain ⟨c, f, hk⟩ := u_known (C := RX1) (T := TX1) (N := 2) (n := 2) hts (fun w hw => (List.mem_filter.mp (cls_X1.2.1 w hw)).1) (hts _ ws_15)
      exact ⟨(c, f), fun q hq => by cases hq; exact hk⟩
    | 2 =>
      obtain ⟨c, f, hk⟩ := u_known (C := RX2) (T := TX2) (N := 10) (n := 10) hts (fun w hw => (List.mem_filter.mp (cls_X2.2.1 w hw)).1) (hts _ ws_16)
      exact ⟨(c, f), fun q hq => by cases hq; exact hk⟩
    | 3 =>
      obtain ⟨c, f, hk⟩ := u_known (C := RX3) (T := TX3) (N := 12) (n := 12) hts (fun w hw => (List.mem_filter.mp (cls_X3.2.1 w hw)).1) (hts _ ws_17)
      exact ⟨(c, f), fun q hq => by cases hq; exact hk⟩
    | 4 =>
      obtain ⟨c, f, hk⟩ := u_known (C := RX4) (T := TX4) (N := 12) (n := 12) hts (fun w hw => (List.mem_filter.mp (cls_X4.2.1 w hw)).1) (hts _ ws_18)
      exact ⟨(c, f), fun q hq => by cases hq; exact hk⟩
    | 5 =>
      obtain ⟨c, f, hk⟩ := u_known (C := RX5) (T := TX5) (N := 13) (n := 13) hts (fun w hw => (List.mem_filter.mp (cls_X5.2.1 w hw)).1) (hts _ ws_19)
      exact ⟨(c, f), fun q hq => by cases hq; exact hk⟩
    | 6 =>
      obtain ⟨c, f, hk⟩ := u_known (C := RX6) (T := TX6) (N := 4) (n := 4) hts (fun w hw => (List.mem_filter.mp (cls_X6.2.1 w hw)).1) (hts _ ws_20)
      exact ⟨(c, f), fun q hq => by cases hq; exact hk⟩
    | 7 =>
      obtain ⟨c, f, hk⟩ := u_known (C := RX7) (T := TX7) (N := 4) (n := 4) hts (fun w hw => (List.mem_filter.mp (cls_X7.2.1 w hw)).1) (hts _ ws_21)
      exact ⟨(c, f), fun q hq => by cases hq; exact hk⟩
    | 8 =>
      obtain ⟨c, f, hk⟩ := u_known (C := RX8) (T := TX8) (N := 11) (n := 11) hts (fun w hw => (List.mem_filter.mp (cls_X8.2.1 w hw)).1) (hts _ ws_22)
      exact ⟨(c, f), fun q hq => by cases hq; exact hk⟩
    | 9 =>
      obtain ⟨c, f, hk⟩ := u_known (C := RX9) (T := TX9) (N := 40) (n := 40) hts (fun w hw => (List.mem_filter.mp (cls_X9.2.1 w hw)).1) (hts _ ws_23)
      exact ⟨(c, f), fun q hq => by cases hq; exact hk⟩
    | k + 10 => exact ⟨(0, fun _ => 0), fun q hq => by simp at hq⟩
  obtain ⟨f, hf⟩ := Classical.axiomOfChoice h
  exact ⟨(fun k => (f k).1, fun k => (f k).2), fun k q hq => hf k q hq⟩
