theorem wq_0 : Cond.classLink "WheelsWidthsLaw" 7 "WheelsWidths" ∈ lw_tbl := List.mem_append_right _ (inc1 _ (List.mem_of_getElem? (i := 17) (by decide +kernel)))
theorem wq_1 : Cond.instantiable "WheelsWidths" 11 ∈ lw_tbl := List.mem_append_right _ (inc1 _ (List.mem_of_getElem? (i := 18) (by decide +kernel)))
theorem wq_2 : Cond.initialized "WheelsWidths" ∈ lw_tbl := List.mem_append_right _ (inc1 _ (List.mem_of_getElem? (i := 1) (by decide +kernel)))
theorem wq_3 : Cond.methodLink "WheelsWidthsLaw" 9 ⟨"WheelsWidths", "<init>", "()V"⟩ ∈ lw_tbl := List.mem_append_right _ (inc1 _ (List.mem_of_getElem? (i := 19) (by decide +kernel)))
theorem wq_4 : Cond.classLink "WheelsWidthsLaw" 10 "WheelsWidthsModel" ∈ lw_tbl := List.mem_append_right _ (inc5 _ (List.mem_of_getElem? (i := 127) (by decide +kernel)))
theorem wq_5 : Cond.instantiable "WheelsWidthsModel" 40 ∈ lw_tbl := List.mem_append_right _ (inc5 _ (List.mem_of_getElem? (i := 128) (by decide +kernel)))
theorem wq_6 : Cond.initialized "WheelsWidthsModel" ∈ lw_tbl := List.mem_append_right _ (inc1 _ (List.mem_of_getElem? (i := 10) (by decide +kernel)))
theorem wq_7 : Cond.methodLink "WheelsWidthsLaw" 12 ⟨"WheelsWidthsModel", "<init>", "()V"⟩ ∈ lw_tbl := List.mem_append_right _ (inc5 _ (List.mem_of_getElem? (i := 129) (by decide +kernel)))
theorem wq_8 : Cond.arrayClass .int ∈ lw_tbl := List.mem_append_right _ (inc1 _ (List.mem_of_getElem? (i := 94) (by decide +kernel)))
theorem wq_9 : Cond.arrayClass .byte ∈ lw_tbl := List.mem_append_right _ (inc1 _ (List.mem_of_getElem? (i := 144) (by decide +kernel)))
theorem wq_10 : Cond.arrayClass .boolean ∈ lw_tbl := List.mem_append_right _ (inc6 _ (List.mem_of_getElem? (i := 22) (by decide +kernel)))
theorem start_callI {p : Program} {l : Launch} {e : Env} {s : State} {m : MethodId} {args : Array Value} {below : List Frame} {meth : Method} {c : Code} {G : Nv} {H : Heap} {locs : List Loc} {ls : Array Slot} {lv : List (Nat × Value)} {QQ : State → Prop} {M' : MD} {wr wc : va_W} {k n mc' ms' idx a pc : Nat} {st : List Value} {Q' : va_W → Prop} (hx : p.tables.exec = Jvm.exec) (hb : c.code = code) (hml : c.maxLocals = 4) (hown : s.vm.findClass R_law = some m.cls) (hts : ∀ w ∈ lw_tbl, w.before args s = true) (hK : va_K G.1 vwCl (tysOf G) s) (hAm : Amb G (fun q => s.heap.size ≤ q) s s.heap) (hP : va_P G.1 vwCl (wr ++ wc) H) (hD : va_D (fun q => s.heap.size ≤ q) (wr ++ wc)) (hS : va_S (fun q => s.heap.size ≤ q) s.heap H locs) (hl : lv_has ls 4 lv) (hs : SpN l G M' [.ref a] wc mc' ms' Q') (hd : decode code pc = .ok (.invokespecial idx, 3)) (hg : MGood M' 0) (hi : Cond.instanceMethod M'.1 ∈ TBL) (hr : M'.2.2.2.1 = none) (hy : M'.1.name = "<init>") (hf : M'.2.2.2.2.1 + 1 ≤ 13 ∧ 8 + (M'.2.2.1 + 11) + M'.2.2.2.2.2 ≤ 470) (hw : (Cond.methodLink R_law idx M'.1).before args s = true) (hk : k + mc' ≤ 88) (hn : n + ms' ≤ 3747) (hst : (st.map fun v => v.category).sum ≤ 8)
    (kk : ∀ (w1 : va_W), Q' w1 → ∀ (H1 : Heap) (locs1 : List Loc), va_P G.1 vwCl (wr ++ w1) H1 → va_D (fun q => s.heap.size ≤ q) (wr ++ w1) → va_S (fun q => s.heap.size ≤ q) s.heap H1 locs1 → W p l e room_1 s m args below meth c H1 locs1 (k + mc') (n + ms') QQ (F0 m (pc + 3) ls st)) : W p l e room_1 s m args below meth c H locs k n QQ (F0 m pc ls (.ref a :: st)) := by
  have hrw : wsM M' = Cond.code M'.1 M'.2.1 M'.2.2.1 none :: TBL := by unfold wsM; rw [MD.code, hr]
  have hF : ∀ q, va_A wc H.size q → s.heap.size ≤ q := by
    rintro q (⟨j, e, h⟩ | h)
    · exact (end_D hD).2 j (q, e) h
    · exact Nat.le_trans hS.1 h
  have tin : ∀ w ∈ TBL, w.before args s = true := fun w h => hts _ (List.mem_filter.mp h).1
  have hrun := va_runI (As := []) (rest := st) (n := 0) (H := H) (locs := locs) (cells := k) (slots := n) (p := p) (e := e) (below := below) (meth := meth) (R := room_1) (g := F0 m pc ls (.ref a :: st)) ⟨hx, hb, hml, hown, hts⟩ (hs H.size) (cwI (R := room_1) (Ts := lw_tbl) 0 hts (lw_good M' hg.1) hrw rfl rfl (tin _ hg.2.1) hw (tin _ hi) hy hg.2.2 hf) ⟨PcN_blind, fun U hU hW => ⟨rfl, by rw [hU], by rw [hU]; exact end_P hP, va_K.moved hW.alike hK, (end_D hD).weaken (fun _ _ _ _ => trivial), by
    rw [hU]
    exact ((hAm.kept hS.2.1).narrow hF).warm hW⟩⟩ rfl rfl hl.1 rfl (lv_room hst) hd ⟨hk, hn⟩
  intro TT hT XX
  obtain ⟨v, st₀, t, T', L, h0, X', hL, e1, e2, ⟨⟨w1, hv, hq, hP1, hK1, hD1⟩, hz, hkp⟩, stp⟩ := hrun TT hT XX
  cases hv
  rw [h0] at hz hkp
  rw [← e1] at hP1
  obtain ⟨hP2, hD2⟩ := join_end hP hD (H1 := T'.heap) (fun q h1 h2 => by rw [e1]; exact hkp q h1 h2) hF hP1 hD1
  obtain ⟨t2, a1, b1⟩ := kk w1 hq T'.heap (locs ++ L) hP2 hD2
    ⟨Nat.le_trans hS.1 (by rw [e1]; exact hz), fun q h1 h2 => by rw [e1, hkp q (Nat.lt_of_lt_of_le h1 hS.1) (fun z => h2 (hF _ z))]; exact hS.2.1 q h1 h2, fun q hq => by
      rcases List.mem_append.mp hq with h | h
      · exact hS.2.2 q h
      · exact hF _ (hL q h)⟩ T' rfl X'
  exact ⟨t2, stp t2 a1, b1⟩
set_option maxHeartbeats 4000000 in
theorem start_of {Inv : Mem → Prop} (hI : Inv cMem) (hE : EqAll Inv) (hok : okMem S88 cMem) {p : Program} {e : Env} {s : State} {m : MethodId} {below : List Frame} {meth : Method} {c : Code} (l : Launch) {b L : Nat} {xs : Nat → Int32} (hL : L ≤ 2560) (C0 : lw_At p s m meth c b L xs) : W p l e room_1 s m #[Value.ref b] below meth c s.heap [] 0 0 (lw_Z below #[Value.ref b] s) (entryFrame m ([Value.ref b] : List Value).toArray 4) := by
  obtain ⟨hx, hb, hr, hml, hown, hts, hX, hbl, hlocks, hgv⟩ := id C0
  have hA : ∀ q : Nat, s.heap.size ≤ q → (fun q : Nat => s.heap.size ≤ q) q := fun _ h => h
  obtain ⟨ad, o, had, hamb⟩ := start_amb (args := #[Value.ref b]) b (flat_of_before _ hgv) hts
  obtain ⟨D, hKc⟩ := start_cls hts
  obtain ⟨cI, hI1, hI2⟩ := arr_cls (Or.inl rfl) (hts _ wq_8)
  obtain ⟨cB, hB1, hB2⟩ := arr_cls (Or.inr (Or.inl rfl)) (hts _ wq_9)
  obtain ⟨cZ, hZ1, hZ2⟩ := arr_cls (Or.inr (Or.inr rfl)) (hts _ wq_10)
  obtain ⟨cA, hcA⟩ : ∃ cA : Nat → ClassId, cA 0 = cI ∧ cA 1 = cB ∧ cA 2 = cZ := ⟨fun k => if k = 0 then cI else if k = 1 then cB else cZ, rfl, rfl, rfl⟩
  obtain ⟨G, hG⟩ : ∃ G : Nv, G = (D, ad, cA, o) := ⟨_, rfl⟩
  have hK : va_K G.1 vwCl (tysOf G) s := by
    subst hG
    refine ⟨hKc, fun k q h => ?_⟩
    obtain ⟨h0, h1, h2⟩ := hcA
    simp only [tysOf] at h
    match k, h with
    | 0, h => simp at h; subst h; rw [h0]; exact ⟨hI1, hI2⟩
    | 1, h => simp at h; subst h; rw [h1]; exact ⟨hB1, hB2⟩
    | 2, h => simp at h; subst h; rw [h2]; exact ⟨hZ1, hZ2⟩
    | k + 3, h => simp at h
  have hAm : Amb G (fun q => s.heap.size ≤ q) s s.heap := by
    subst hG
    exact hamb D cA ad (fun _ _ => rfl)
  have hGD : G.1 = D := by rw [hG]
  have hG150 : G.2.1 150 = b := by rw [hG]; exact had
  clear hG hI1 hI2 hB1 hB2 hZ1 hZ2 hKc hamb
  subst hGD
  generalize hDD : G.1 = D at hK
  have hS : va_S (fun q : Nat => s.heap.size ≤ q) s.heap s.heap [] := va_S.rf
  have hP : va_P D vwCl ([] : va_W) s.heap := fun k q h => by simp at h
  have hD : va_D (fun q : Nat => s.heap.size ≤ q) ([] : va_W) := ⟨fun i j p q h => by simp at h, fun k q h => by simp at h⟩
  have hl := lv_entry ([.ref b]) (n := 4) (Nat.le_of_ble_eq_true rfl)
  rw [lg_entry_eq]
  generalize (lg_sl ([.ref b]) ++ List.replicate (4 - (lg_sl ([.ref b])).length) Slot.unset).toArray = ls at hl ⊢
  have hl : lv_has ls 4 [(0, .ref b)] := hl
  subst hDD
  refine va_new (D := G.1) (ci := 8) (fs := [.null, .null, .null, .null, .null, .null, .null, .null, .null, .null, .int 0]) (C := RX8) (T := TX8) (N := 11) hx hb hts (fun w hw => (List.mem_filter.mp (cls_X8.2.1 w hw)).1) tyX8 cls_X8.2.2.1 hown (hts _ wq_0) (hts _ wq_1) (hts _ wq_2) hK hP hD hS hA rfl (by decide +kernel) (Nat.le_of_ble_eq_true rfl) (Nat.le_of_ble_eq_true rfl) dL_law_0 (fun q0 H hP hD hS => ?_)
  refine W.widen (k := 1) (n := 11) (Nat.le_of_ble_eq_true rfl) (Nat.le_of_ble_eq_true rfl) ?_
  refine lv_dup hx hb dL_law_3 rfl ?_
  refine start_callI (G := G) (k := 1) (n := 11) (mc' := 60) (ms' := 1789) (wr := ([] : va_W)) (wc := [(q0, .inr (8, [.null, .null, .null, .null, .null, .null, .null, .null, .null, .null, .int 0]))]) (st := [.ref q0]) hx hb hml hown hts hK hAm hP hD hS hl (c_X8 l G q0) dL_law_4 mg_X8_init mn_X8_init rfl rfl ⟨Nat.le_of_ble_eq_true rfl, Nat.le_of_ble_eq_true rfl⟩ (hts _ wq_3) (Nat.le_of_ble_eq_true rfl) (Nat.le_of_ble_eq_true rfl) (Nat.le_of_ble_eq_true rfl) (fun Lq0 hLq0 H locs hP hD hS => ?_)
  refine lv_astore_n (lv' := [(1, .ref q0), (0, .ref b)]) hx hb dL_law_7 rfl hl (by decide) rfl (fun ls hl => ?_)
  refine va_new (D := G.1) (ci := 9) (fs := [.null, .null, .int 0, .null, .null, .null, .null, .null, .int 0, .null, .null, .null, .null, .null, .int 0, .int 0, .int 0, .null, .int 0, .int 0, .int 0, .int 0, .int 0, .int 0, .int 0, .null, .null, .null, .null, .null, .null, .int 0, .null, .null, .null, .null, .null, .null, .null, .int 0]) (C := RX9) (T := TX9) (N := 40) hx hb hts (fun w hw => (List.mem_filter.mp (cls_X9.2.1 w hw)).1) tyX9 cls_X9.2.2.1 hown (hts _ wq_4) (hts _ wq_5) (hts _ wq_6) hK hP hD hS hA rfl (by decide +kernel) (Nat.le_of_ble_eq_true rfl) (Nat.le_of_ble_eq_true rfl) dL_law_8 (fun q1 H hP hD hS => ?_)
  refine W.widen (k := 62) (n := 1840) (Nat.le_of_ble_eq_true rfl) (Nat.le_of_ble_eq_true rfl) ?_
  refine lv_dup hx hb dL_law_11 rfl ?_
  refine start_callI (G := G) (k := 62) (n := 1840) (mc' := 26) (ms' := 1907) (wr := (([] : va_W) ++ Lq0)) (wc := [(q1, .inr (9, [.null, .null, .int 0, .null, .null, .null, .null, .null, .int 0, .null, .null, .null, .null, .null, .int 0, .int 0, .int 0, .null, .int 0, .int 0, .int 0, .int 0, .int 0, .int 0, .int 0, .null, .null, .null, .null, .null, .null, .int 0, .null, .null, .null, .null, .null, .null, .null, .int 0]))]) (st := [.ref q1]) hx hb hml hown hts hK hAm hP hD hS hl (c_X9 l G q1) dL_law_12 mg_X9_init mn_X9_init rfl rfl ⟨Nat.le_of_ble_eq_true rfl, Nat.le_of_ble_eq_true rfl⟩ (hts _ wq_7) (Nat.le_of_ble_eq_true rfl) (Nat.le_of_ble_eq_true rfl) (Nat.le_of_ble_eq_true rfl) (fun Lq1 hLq1 H locs hP hD hS => ?_)
  refine lv_astore_n (lv' := [(2, .ref q1), (1, .ref q0), (0, .ref b)]) hx hb dL_law_15 rfl hl (by decide) rfl (fun ls hl => ?_)
  refine lv_iconst (v := 0) hx hb dL_law_16 (by decide) ?_
  refine lv_istore_n (lv' := [(3, .int 0), (2, .ref q1), (1, .ref q0), (0, .ref b)]) hx hb dL_law_17 rfl hl (by decide) rfl (fun ls hl => ?_)
  obtain ⟨q, e0, e1, e2, hw⟩ := world88 hLq0 hLq1
  have hP : va_P G.1 vwCl (Lq0 ++ Lq1) H := hP
  have hD : va_D (fun q : Nat => s.heap.size ≤ q) (Lq0 ++ Lq1) := hD
  rw [hw] at hP hD
  have hlw := law_loop (l := l) (G := (G.1, q, G.2.2)) (b := b) (L := L) (xs := xs) hE hL (L + 5) 0 cMem (by omega) (by omega) hI
  refine hlw p e s m below meth c H locs ls ⟨C0, hK, hAm.ad e2, (e2 150 (by omega)).trans hG150⟩ hP hD hS ?_ rfl hok ?_ (fun v hv => by cases hv)
  · refine ⟨hl.1, hl.2.1, fun z hz => ?_⟩
    obtain ⟨v, h1, h2⟩ := lvl_mem' hz
    rw [h2]
    have hmem : ∀ i w, [some (vR 150), some (vR 0), some (vR 61), some (vI ((0 : Nat) : Int))][i]? = some (some w) → (i, rv (G.1, q, G.2.2) w) ∈ [(3, Value.int 0), (2, .ref q1), (1, .ref q0), (0, .ref b)] := by
      intro i w hw
      match i, hw with
      | 0, hw => simp at hw; subst hw; simp [rv, (e2 150 (by omega)).trans hG150]
      | 1, hw => simp at hw; subst hw; simp [rv, e0]
      | 2, hw => simp at hw; subst hw; simp [rv, e1]
      | 3, hw => simp at hw; subst hw; simp [rv]
      | i + 4, hw => simp at hw
    exact hl.2.2 _ (hmem _ _ h1)
  · intro i w hw
    match i, hw with
    | 0, hw => simp at hw; subst hw; trivial
    | 1, hw => simp at hw; subst hw; trivial
    | 2, hw => simp at hw; subst hw; trivial
    | 3, hw => simp at hw; subst hw; show C32 0; decide
    | i + 4, hw => simp at hw
