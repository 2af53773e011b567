/-! ===== keep, back ===== -/
theorem zN1 : zN 1 = 1 := by decide
theorem img_bits {a b : Int} (ha : a = 0 ∨ a = 1) (hb : b = 0 ∨ b = 1) : iAnd (iShr (a + 2 * b) 0) 1 = a ∧ iAnd (iShr (a + 2 * b) 1) 1 = b ∧ iOr (a + 2 * b) (iShl 1 0) = 1 + 2 * b ∧ iOr (a + 2 * b) (iShl 1 1) = a + 2 := by
  rcases ha with rfl | rfl <;> rcases hb with rfl | rfl <;> decide
theorem keepInv {μ : Mem} (H : Inv μ) {r o k : Nat} (hk : (k = 0 ∧ r = 9 ∧ o = 185) ∨ (k = 1 ∧ r = 17 ∧ o = 370)) {v : Int} (hv : v = (if k = 0 then 1 else μ 63 0) + 2 * (if k = 1 then 1 else μ 63 1)) : Inv (cpS 0 o (mset (mset (cpR r 1 μ) 0 10 v) 63 k 1)) := by
  obtain ⟨hR, hM, hO, hT⟩ := H.R
  obtain ⟨i1, i2, i3, i4, i5⟩ := H.2.1
  have q : ∀ a, a ≠ 0 → ¬ (r ≤ a ∧ a ≤ r + 7) → a ≠ 62 → a ≠ 63 → cpS 0 o (mset (mset (cpR r 1 μ) 0 10 v) 63 k 1) a = μ a := fun a h0 h1 h2 h3 => by
    rw [cpS_off h2, mset_off h3, mset_off h0, cpR_off (by omega)]
  have q62 : ∀ j, j < o ∨ o + 185 ≤ j → cpS 0 o (mset (mset (cpR r 1 μ) 0 10 v) 63 k 1) 62 j = μ 62 j := fun j h => by
    rw [cpS_out h, mset_off (by omega), mset_off (by omega), cpR_off (by omega)]
  have q63 : ∀ j, cpS 0 o (mset (mset (cpR r 1 μ) 0 10 v) 63 k 1) 63 j = if j = k then 1 else μ 63 j := fun j => by
    rw [cpS_off (by omega), mset_ap, mset_off (by omega), cpR_off (by omega)]
    by_cases z : j = k
    · rw [if_pos ⟨rfl, z⟩, if_pos z]
    · rw [if_neg (fun y => z y.2), if_neg z]
  have hnew : Img (cpS 0 o (mset (mset (cpR r 1 μ) 0 10 v) 63 k 1)) r o := by
    refine Img.of (R := mR μ 0) ?_ ?_ hO
    · refine RC.off (μ := cpR r 1 μ) (fun a h1 h2 => ?_) (hR.cp (by omega) hO.n hT.2)
      rw [cpS_off (by omega), mset_off (by omega), mset_off (by omega)]
    · refine MC.cp hT.2 ?_
      refine MC.off (μ := μ) ?_ (fun a h1 h2 h3 => ?_) hM
      · rw [mset_off (by omega), mset_off (by omega), cpR_off (by omega)]
      · rw [mset_off (by omega), mset_off (by omega), cpR_off (by omega)]
  refine ⟨Img.keep (r := 1) (o := 0) ?_ ?_ ?_ ?_ H.1, ⟨?_, ?_, ?_, ?_, ?_⟩, H.2.2.1.same ?_ ?_ ?_ ?_, H.2.2.2.1.same ?_ ?_ ?_ ?_ ?_ ?_, H.2.2.2.2.1.same ?_ ?_, H.2.2.2.2.2.1.same ?_ ?_, H.2.2.2.2.2.2.same ?_ ?_ ?_ ?_ ?_ ?_ ?_⟩
  · rw [q _ (by omega) (by omega) (by omega) (by omega)]
  · intro a h1 h2; rw [q _ (by omega) (by omega) (by omega) (by omega)]
  · intro j h1 h2; rw [q62 _ (by omega)]
  · intro a h1 h2; rw [q _ (by omega) (by omega) (by omega) (by omega)]
  · rw [q63]; split
    · exact Or.inr rfl
    · exact i1
  · rw [q63]; split
    · exact Or.inr rfl
    · exact i2
  · rw [q63, q63, cpS_off (by omega), mset_off (by omega), mset_same, hv]
    rcases hk with ⟨rfl, rfl, rfl⟩ | ⟨rfl, rfl, rfl⟩ <;> rfl
  · intro h
    rcases hk with ⟨rfl, rfl, rfl⟩ | ⟨rfl, rfl, rfl⟩
    · exact hnew
    · rw [q63, if_neg (by omega)] at h
      exact Img.keep (r := 9) (o := 185) (by rw [q _ (by omega) (by omega) (by omega) (by omega)]) (fun a h1 h2 => by rw [q _ (by omega) (by omega) (by omega) (by omega)]) (fun j h1 h2 => by rw [q62 _ (by omega)]) (fun a h1 h2 => by rw [q _ (by omega) (by omega) (by omega) (by omega)]) (i4 h)
  · intro h
    rcases hk with ⟨rfl, rfl, rfl⟩ | ⟨rfl, rfl, rfl⟩
    · rw [q63, if_neg (by omega)] at h
      exact Img.keep (r := 17) (o := 370) (by rw [q _ (by omega) (by omega) (by omega) (by omega)]) (fun a h1 h2 => by rw [q _ (by omega) (by omega) (by omega) (by omega)]) (fun j h1 h2 => by rw [q62 _ (by omega)]) (fun a h1 h2 => by rw [q _ (by omega) (by omega) (by omega) (by omega)]) (i5 h)
    · exact hnew
  all_goals first
    | (intro j h1 h2; rw [q _ (by omega) (by omega) (by omega) (by omega)])
    | (intro j h1; rw [q62 _ (by omega)])
    | rw [q _ (by omega) (by omega) (by omega) (by omega)]
theorem E_keep_ok : E_keep Inv := by
  intro μ H x1 g1
  obtain ⟨i1, i2, i3, i4, i5⟩ := H.2.1
  obtain ⟨b1, b2, b3, b4⟩ := img_bits i1 i2
  by_cases h : x1 = 0
  · subst h
    refine ⟨μ 63 0, mset (cpR 9 1 μ) 0 10 (1 + 2 * μ 63 1), cpS 0 185 (mset (mset (cpR 9 1 μ) 0 10 (1 + 2 * μ 63 1)) 63 0 1), ?_, ?_, keepInv H (Or.inl ⟨rfl, rfl, rfl⟩) rfl⟩
    · unfold ww_keep ww_image bnd
      dsimp only
      rw [isImage_eq, tT (by omega), if_pos rfl, Option.bind_some, copyFrom_eq (by omega), Option.bind_some, cpR_off (k := 0) (by omega), i3, b1, b3]
    · unfold mod_keep
      rw [in_eq, tT (by omega), ld_ok (by omega), Option.bind_some, flag_eq, Option.bind_some, stx_ok (by omega), Option.bind_some, zN1, copies_eq (x := wI (185 * wI (0 + 1))) (y := 0) (b := 185) (a := 0) (by decide) rfl (by omega) (by omega) (by omega), Option.bind_some, mset_off (by omega), cpR_off (by omega)]
      show some (if μ 63 0 = 0 then (0 : Int) else 1, _) = some (μ 63 0, _)
      rcases i1 with z | z <;> rw [z] <;> rfl
  · by_cases h' : x1 = 1
    · subst h'
      refine ⟨μ 63 1, mset (cpR 17 1 μ) 0 10 (μ 63 0 + 2 * 1), cpS 0 370 (mset (mset (cpR 17 1 μ) 0 10 (μ 63 0 + 2 * 1)) 63 1 1), ?_, ?_, keepInv H (Or.inr ⟨rfl, rfl, rfl⟩) rfl⟩
      · unfold ww_keep ww_image bnd
        dsimp only
        rw [isImage_eq, tT (by omega), if_neg (by omega), Option.bind_some, copyFrom_eq (by omega), Option.bind_some, cpR_off (k := 0) (by omega), i3, b2, b4]; rfl
      · unfold mod_keep
        rw [in_eq, tT (by omega), ld_ok (by omega), Option.bind_some, flag_eq, Option.bind_some, stx_ok (by omega), Option.bind_some, zN1, copies_eq (x := wI (185 * wI (1 + 1))) (y := 0) (b := 370) (a := 0) (by decide) rfl (by omega) (by omega) (by omega), Option.bind_some, mset_off (by omega), cpR_off (by omega)]
        show some (if μ 63 1 = 0 then (0 : Int) else 1, _) = some (μ 63 1, _)
        rcases i2 with z | z <;> rw [z] <;> rfl
    · refine ⟨-1, μ, μ, ?_, ?_, H⟩
      · unfold ww_keep
        rw [isImage_eq, tF (by omega)]
      · unfold mod_keep
        rw [in_eq, tF (by omega)]
theorem backInv {μ : Mem} (H : Inv μ) {r o : Nat} (hk : (r = 9 ∧ o = 185) ∨ (r = 17 ∧ o = 370)) (hI : Img μ r o) : Inv (cpS o 0 (pdM (cpR 1 r μ))) := by
  have q : ∀ a, ¬ (1 ≤ a ∧ a ≤ 8) → a ≠ 46 → pdM (cpR 1 r μ) a = μ a := fun a h1 h2 => by
    rw [pd_off _ _ h2, cpR_off (by omega)]
  have hOff : Off Rdw μ (cpS o 0 (pdM (cpR 1 r μ))) := fun a j n => by
    have h46 : a ≠ 46 := fun z => n (by unfold Rdw; omega)
    have h18 : ¬ (1 ≤ a ∧ a ≤ 8) := fun z => n (by unfold Rdw; omega)
    by_cases z : a = 62
    · subst z
      rw [cpS_out (by have : ¬ j < 185 := fun y => n (by unfold Rdw; omega); omega), q _ h18 h46]
    · rw [cpS_off z, q _ h18 h46]
  have hT : mR μ o 0 2 ≤ 8 := hI.2.1.2.2.2.2.2
  refine Inv.road (R := mR μ o) hOff ?_ ?_ hI.2 (Icache.dropped ?_ ?_) H
  · refine RC.off (μ := cpR 1 r μ) (fun a h1 h2 => ?_) (hI.1.cp (by omega) hI.2.n hT)
    rw [cpS_off (by omega), pd_off _ _ (by omega)]
  · refine MC.cp hT ?_
    refine MC.off (μ := μ) ?_ (fun a h1 h2 h3 => ?_) (MC_mR μ o)
    · rw [q _ (by omega) (by omega)]
    · rw [q _ (by omega) (by omega)]
  · rw [cpS_off (by omega)]; exact (pd_flags _).1
  · rw [cpS_off (by omega)]; exact (pd_flags _).2
theorem E_back_ok : E_back Inv := by
  intro μ H x1 g1
  obtain ⟨i1, i2, i3, i4, i5⟩ := H.2.1
  obtain ⟨b1, b2, b3, b4⟩ := img_bits i1 i2
  by_cases h : x1 = 0
  · subst h
    by_cases z : μ 63 0 = 0
    · refine ⟨-2, μ, μ, ?_, ?_, H⟩
      · unfold ww_back
        rw [isImage_eq, tT (by omega), i3, b1, if_pos z]
      · unfold mod_back
        rw [in_eq, tT (by omega), ld_ok (by omega), Option.bind_some, show μ 63 (0 : Int).toNat = 0 from z, if_pos rfl]
    · have hI : Img μ 9 185 := i4 (i1.resolve_left z)
      refine ⟨μ 62 185, pdM (cpR 1 9 μ), cpS 185 0 (pdM (cpR 1 9 μ)), ?_, ?_, backInv H (Or.inl ⟨rfl, rfl⟩) hI⟩
      · unfold ww_back ww_image
        rw [isImage_eq, tT (by omega), i3, b1, if_neg z, if_pos rfl, Option.bind_some, copyFrom_eq (by omega), Option.bind_some, drop_eq, Option.bind_some, pd_off _ _ (by omega), cpR_slot (by omega), hI.1.1.2.1]; rfl
      · unfold mod_back
        rw [in_eq, tT (by omega), ld_ok (by omega), Option.bind_some, pd_off _ _ (by omega), cpR_off (by omega), if_neg (show ¬ μ 63 (0 : Int).toNat = 0 from z), copies_eq (x := 0) (y := wI (185 * wI (0 + 1))) (b := 0) (a := 185) rfl (by decide) (by omega) (by omega) (by omega), Option.bind_some, cpS_in' (i := 0) (by omega) (by omega), pd_off _ _ (by omega), cpR_off (by omega)]
  · by_cases h' : x1 = 1
    · subst h'
      by_cases z : μ 63 1 = 0
      · refine ⟨-2, μ, μ, ?_, ?_, H⟩
        · unfold ww_back
          rw [isImage_eq, tT (by omega), i3, b2, if_pos z]
        · unfold mod_back
          rw [in_eq, tT (by omega), ld_ok (by omega), Option.bind_some, show μ 63 (1 : Int).toNat = 0 from z, if_pos rfl]
      · have hI : Img μ 17 370 := i5 (i2.resolve_left z)
        refine ⟨μ 62 370, pdM (cpR 1 17 μ), cpS 370 0 (pdM (cpR 1 17 μ)), ?_, ?_, backInv H (Or.inr ⟨rfl, rfl⟩) hI⟩
        · unfold ww_back ww_image
          rw [isImage_eq, tT (by omega), i3, b2, if_neg z, if_neg (by omega), Option.bind_some, copyFrom_eq (by omega), Option.bind_some, drop_eq, Option.bind_some, pd_off _ _ (by omega), cpR_slot (by omega), hI.1.1.2.1]; rfl
        · unfold mod_back
          rw [in_eq, tT (by omega), ld_ok (by omega), Option.bind_some, pd_off _ _ (by omega), cpR_off (by omega), if_neg (show ¬ μ 63 (1 : Int).toNat = 0 from z), copies_eq (x := 0) (y := wI (185 * wI (1 + 1))) (b := 0) (a := 370) rfl (by decide) (by omega) (by omega) (by omega), Option.bind_some, cpS_in' (i := 0) (by omega) (by omega), pd_off _ _ (by omega), cpR_off (by omega)]
    · refine ⟨-1, μ, μ, ?_, ?_, H⟩
      · unfold ww_back
        rw [isImage_eq, tF (by omega)]
      · unfold mod_back
        rw [in_eq, tF (by omega)]
