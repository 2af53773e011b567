/-! ===== the calls that walk nothing ===== -/
theorem wI_wrap {x : Int} (h : -2147483648 ≤ x ∧ x < 2147483648) : wI (x - 4294967296) = x := by
  unfold wI
  rw [Int32.toInt_ofInt]
  rw [Int.bmod_def, show Int32.size = 4294967296 from rfl]; omega
theorem tT {α : Type} {P : Prop} [Decidable P] (h : P) (A B : Option α) : ((some (if P then (1 : Int) else 0)).bind fun u => if u = 0 then A else B) = B := by
  rw [if_pos h, Option.bind_some, if_neg (by omega)]
theorem tF {α : Type} {P : Prop} [Decidable P] (h : ¬ P) (A B : Option α) : ((some (if P then (1 : Int) else 0)).bind fun u => if u = 0 then A else B) = A := by
  rw [if_neg h, Option.bind_some, if_pos rfl]
theorem Inv.c {μ : Mem} (H : Inv μ) : μ 1 9 = μ 61 2 ∧ μ 1 10 = μ 62 0 ∧ μ 1 11 = μ 62 168 ∧ (2 ≤ μ 61 2 ∧ μ 61 2 ≤ 20) ∧ (0 ≤ μ 62 0 ∧ μ 62 0 ≤ 5) ∧ 0 ≤ μ 62 168 ∧ μ 62 168 ≤ 8 := by
  obtain ⟨⟨⟨⟨a1, a2, a3⟩, -⟩, ⟨o1, o2, o3, o4, o5, o6⟩, -⟩, -⟩ := H
  exact ⟨a1, a2, a3, ⟨o1, o2⟩, ⟨o3, o4⟩, o5, o6⟩
theorem Inv.hill {μ : Mem} (H : Inv μ) {y : Int} (h : 0 ≤ y ∧ y < 21) : μ 2 y.toNat = μ 65 y.toNat ∧ (μ 65 y.toNat = -4 ∨ 0 ≤ μ 65 y.toNat ∧ μ 65 y.toNat ≤ 2) := ⟨H.1.1.2.1 y h.1 h.2, H.1.2.2.1 y h.1 h.2⟩
theorem Inv.smith {μ : Mem} (H : Inv μ) {y : Int} (h : 0 ≤ y ∧ y < 21) : μ 3 y.toNat = μ 66 y.toNat ∧ (μ 66 y.toNat = -4 ∨ 0 ≤ μ 66 y.toNat ∧ μ 66 y.toNat ≤ 9) := ⟨H.1.1.2.2.1 y h.1 h.2, H.1.2.2.2.1 y h.1 h.2⟩
theorem Inv.toll {μ : Mem} (H : Inv μ) {k : Int} (h : 0 ≤ k ∧ k < 63) : μ 4 k.toNat = μ 67 k.toNat ∧ 0 ≤ μ 67 k.toNat ∧ μ 67 k.toNat ≤ 9 := ⟨H.1.1.2.2.2.2.1 k h.1 h.2, H.1.2.2.2.2.2.1 k h.1 h.2⟩
theorem Inv.dep {μ : Mem} (H : Inv μ) {k : Int} (h : 0 ≤ k ∧ k < 63) : μ 5 k.toNat = μ 62 (0 + 36 + k.toNat) ∧ 0 ≤ μ 62 (0 + 36 + k.toNat) ∧ μ 62 (0 + 36 + k.toNat) ≤ 99 := ⟨H.1.1.2.2.2.2.2.1 k h.1 h.2, H.1.2.2.2.2.2.2.1 k h.1 h.2⟩
theorem Inv.prt {μ : Mem} (H : Inv μ) {c k : Int} (h : 0 ≤ c ∧ c < μ 62 0 ∧ 0 ≤ k ∧ k < 7) : μ 6 (7 * c + k).toNat = μ 62 (0 + 1 + (7 * c + k).toNat) := H.1.1.2.2.2.2.2.2.1 (7 * c + k) (by omega) (show 7 * c + k < 7 * (mR μ 0 0 1) by show 7 * c + k < 7 * μ 62 0; omega)
theorem Inv.cst {μ : Mem} (H : Inv μ) {i : Int} (h : 1 ≤ i ∧ i < 8) : μ 7 i.toNat = μ 62 (0 + 160 + i.toNat) ∧ 0 ≤ μ 62 (0 + 160 + i.toNat) ∧ μ 62 (0 + 160 + i.toNat) ≤ 60 := ⟨H.1.1.2.2.2.2.2.2.2.1 i h.1 h.2, H.1.2.2.2.2.2.2.2.2.1 i h.1 h.2⟩
theorem Inv.bog {μ : Mem} (H : Inv μ) {y : Int} (h : 0 ≤ y ∧ y < 21) : roa_isBog 1 μ y = some (if μ 64 y.toNat = 1 then 1 else 0) ∧ (μ 64 y.toNat = 0 ∨ μ 64 y.toNat = 1) := by
  obtain ⟨b, b1, b2, b3⟩ := H.1.1.2.2.2.1
  have b4 : μ 64 y.toNat = 0 ∨ μ 64 y.toNat = 1 := H.1.2.2.2.2.1 y h.1 h.2
  refine ⟨?_, b4⟩
  have e : y = ((y.toNat : Nat) : Int) := by omega
  have b5 : b.testBit y.toNat = decide (μ 64 (y.toNat : Int).toNat = 1) := b3 y.toNat (by omega)
  rw [Int.toNat_natCast] at b5
  unfold roa_isBog
  rw [b1]
  generalize hk : y.toNat = k at *
  subst e
  rw [iBit (by omega) (by omega), b5]
  rcases b4 with h | h <;> simp [h]
theorem Inv.fro {μ : Mem} (H : Inv μ) {h : Int} (hh : 0 ≤ h ∧ h < 61) : roa_isFrost 1 μ h = some (if μ 62 (0 + 99 + h.toNat) = 1 then 1 else 0) ∧ (μ 62 (0 + 99 + h.toNat) = 0 ∨ μ 62 (0 + 99 + h.toNat) = 1) := by
  obtain ⟨b, b1, b2, b3⟩ := H.1.1.2.2.2.2.2.2.2.2.1
  have b4 : μ 62 (0 + 99 + h.toNat) = 0 ∨ μ 62 (0 + 99 + h.toNat) = 1 := H.1.2.2.2.2.2.2.2.2.2.1 h hh.1 hh.2
  refine ⟨?_, b4⟩
  have e : h = ((h.toNat : Nat) : Int) := by omega
  have b5 : b.testBit h.toNat = decide (μ 62 (0 + 99 + (h.toNat : Int).toNat) = 1) := b3 h.toNat (by omega)
  rw [Int.toNat_natCast] at b5
  unfold roa_isFrost
  rw [b1]
  generalize hk : h.toNat = k at *
  subst e
  rw [lBit (by omega) (by omega), b5]
  simp only [lCmp0]
  rcases b4 with h | h <;> simp [h]
theorem E_end_ok : E_end Inv := by
  intro μ H x1 hx
  obtain ⟨b1, b2, b3⟩ := H.2.2.1
  by_cases h : 0 ≤ x1 ∧ x1 ≤ μ 61 18
  · refine ⟨μ 61 18, mset μ 25 1 x1, mset (mset μ 25 1 x1) 61 18 x1, ?_, ?_, ?_⟩
    · unfold ww_end bnd
      rw [if_neg (by omega), if_pos (by omega), b2]
    · have e : mset μ 25 1 x1 61 18 = μ 61 18 := by rw [mset_ap, if_neg (by omega)]
      unfold mod_end bnd
      rw [in_eq, e, if_pos h, Option.bind_some, if_neg (by omega)]
    · obtain ⟨a1, a2, a3, a4, a5, a6, a7⟩ := H
      have q : ∀ a, a ≠ 25 → a ≠ 61 → mset (mset μ 25 1 x1) 61 18 x1 a = μ a := fun a n1 n2 => by rw [mset_off n2, mset_off n1]
      have hm : SmM μ (mset (mset μ 25 1 x1) 61 18 x1) := ⟨by simp [mset_ap], q _ (by omega) (by omega), q _ (by omega) (by omega), q _ (by omega) (by omega), q _ (by omega) (by omega), q _ (by omega) (by omega)⟩
      refine ⟨a1.same hm (fun a _ _ => q _ (by omega) (by omega)), a2.same hm (q _ (by omega) (by omega)) (by simp [mset_ap]) (fun a _ _ => q _ (by omega) (by omega)), ?_, a4.same (q _ (by omega) (by omega)) (q _ (by omega) (by omega)) (q _ (by omega) (by omega)) (q _ (by omega) (by omega)) (q _ (by omega) (by omega)) (q _ (by omega) (by omega)), a5.same (by simp [mset_ap]) (by simp [mset_ap]), a6.same (by simp [mset_ap]) (by simp [mset_ap]), a7.same hm.1 (fun j _ => by rw [hm.2.1]) hm.2.2.1 hm.2.2.2.1 hm.2.2.2.2.2 (fun j _ _ => by simp [mset_ap]) (q _ (by omega) (by omega))⟩
      unfold Itape
      rw [q 74 (by omega) (by omega), q 26 (by omega) (by omega), show mset (mset μ 25 1 x1) 61 18 x1 61 18 = x1 by simp [mset_ap], show mset (mset μ 25 1 x1) 61 18 x1 25 1 = x1 by simp [mset_ap]]
      exact ⟨by omega, rfl, fun i h1 h2 => b3 i h1 (by omega)⟩
  · refine ⟨-1, μ, μ, ?_, ?_, H⟩
    · unfold ww_end
      by_cases h0 : x1 < 0
      · rw [if_pos h0]
      · rw [if_neg h0, if_neg (by omega)]
    · unfold mod_end
      rw [in_eq, if_neg h, Option.bind_some, if_pos rfl]
theorem E_fault_ok : E_fault Inv := fun μ H => ⟨μ 61 23, by unfold ww_fault; rw [show μ 25 3 = μ 61 23 from H.2.2.2.2.1], rfl, H⟩
theorem E_torn_ok : E_torn Inv := fun μ H => ⟨μ 61 39, by unfold ww_torn; rw [show μ 57 3 = μ 61 39 from H.2.2.2.2.2.1], rfl, H⟩
theorem BIG8 : ∃ f, BIG = f + 1 + 1 + 1 + 1 + 1 + 1 + 1 + 1 + 1 + 1 := ⟨18446744073709551606, rfl⟩
theorem widths_eq {μ : Mem} (H : Inv μ) {y : Int} (h : 0 ≤ y ∧ y ≤ μ 61 2) : roa_widthsAt 1 μ y = some (if μ 65 y.toNat = -4 then 7 else iShl 1 (μ 65 y.toNat)) := by
  obtain ⟨c1, c2, c3, c4, c5, c6⟩ := H.c
  obtain ⟨e1, e2⟩ := H.hill (y := y) (by omega)
  obtain ⟨f, hf⟩ := BIG8
  have hr : ∀ w, roa_hasRut 1 μ y w = some (if (0 ≤ w ∧ w ≤ 2) ∧ (μ 65 y.toNat = -4 ∨ μ 65 y.toNat = w) then 1 else 0) := fun w => by
    rw [hasRut_eq (by omega), show μ (1 + 1) y.toNat = μ 65 y.toNat from e1]
    congr 1
    by_cases hq : (0 ≤ w ∧ w ≤ 2) ∧ (μ 65 y.toNat = -4 ∨ μ 65 y.toNat = w)
    · rw [if_pos hq, if_pos ⟨by omega, hq.1, hq.2⟩]
    · rw [if_neg hq, if_neg (fun z => hq ⟨z.2.1, z.2.2⟩)]
  have st : ∀ (f : Nat) (x w : Int), 0 ≤ w → w < 3 → roa_widthsAt_4 1 μ (f + 1) y x w = roa_widthsAt_4 1 μ f y (if μ 65 y.toNat = -4 ∨ μ 65 y.toNat = w then iOr x (iShl 1 w) else x) (w + 1) := fun f x w h0 h3 => by
    rw [roa_widthsAt_4.eq_2, if_neg (by omega), hr]
    unfold roa_widthsAt_24 bnd
    by_cases z : μ 65 y.toNat = -4 ∨ μ 65 y.toNat = w
    · rw [tT ⟨by omega, z⟩, wI_id (by omega), if_pos z]
    · rw [tF (fun q => z q.2), wI_id (by omega), if_neg z]
  unfold roa_widthsAt
  rw [hf, st _ _ _ (by omega) (by omega), st _ _ _ (by omega) (by omega), st _ _ _ (by omega) (by omega), roa_widthsAt_4.eq_2, if_pos (by omega)]
  generalize μ 65 y.toNat = g at *
  have hg : g = -4 ∨ g = 0 ∨ g = 1 ∨ g = 2 := by omega
  rcases hg with hg | hg | hg | hg <;> subst hg <;> decide
theorem E_yard_ok : E_yard Inv := by
  intro μ H x1 x2 hx1 hx2
  obtain ⟨c1, c2, c3, c4, c5, c6⟩ := H.c
  by_cases h : 0 ≤ x1 ∧ x1 ≤ μ 61 2
  · have hy : 0 ≤ x1 ∧ x1 < 21 := by omega
    obtain ⟨s1, s2⟩ := H.smith hy
    obtain ⟨b1, b2⟩ := H.bog hy
    obtain ⟨e1, e2⟩ := H.hill hy
    have hr : ∀ w, roa_hasRut 1 μ x1 w = some (if (0 ≤ w ∧ w ≤ 2) ∧ (μ 65 x1.toNat = -4 ∨ μ 65 x1.toNat = w) then 1 else 0) := fun w => by
      rw [hasRut_eq (by omega), show μ (1 + 1) x1.toNat = μ 65 x1.toNat from e1]
      congr 1
      by_cases hq : (0 ≤ w ∧ w ≤ 2) ∧ (μ 65 x1.toNat = -4 ∨ μ 65 x1.toNat = w)
      · rw [if_pos hq, if_pos ⟨by omega, hq.1, hq.2⟩]
      · rw [if_neg hq, if_neg (fun z => hq ⟨z.2.1, z.2.2⟩)]
    unfold ww_yard mod_yard
    rw [hasYard_eq, mIsYard_eq, c1, tT h, tT h]
    by_cases k0 : x2 = 0
    · rw [if_pos k0, if_pos k0, widths_eq H h, ld_ok (by omega), Option.bind_some, Option.bind_some, Option.bind_some]
      by_cases z : μ 65 x1.toNat = -4
      · rw [if_pos z, if_pos z]; exact ⟨_, rfl, rfl, H⟩
      · rw [if_neg z, if_neg z]; exact ⟨_, rfl, rfl, H⟩
    rw [if_neg k0, if_neg k0]
    by_cases k1 : x2 = 1
    · rw [if_pos k1, if_pos k1, b1, ld_ok (by omega), Option.bind_some, Option.bind_some, flag_eq, Option.bind_some]
      rcases b2 with b2 | b2 <;> rw [b2] <;> exact ⟨_, rfl, rfl, H⟩
    rw [if_neg k1, if_neg k1]
    by_cases k2 : x2 = 2
    · rw [if_pos k2, if_pos k2, smithAt_in hy, ld_ok (by omega), Option.bind_some, Option.bind_some]
      exact ⟨_, rfl, by rw [← s1], H⟩
    rw [if_neg k2, if_neg k2]
    by_cases k10 : 10 ≤ x2 ∧ x2 ≤ 12
    · obtain ⟨d1, d2⟩ := H.dep (k := 3 * x1 + (x2 - 10)) (by omega)
      have he : mod_hasRut μ x1 (x2 - 10) = some (if μ 65 x1.toNat = -4 ∨ μ 65 x1.toNat = x2 - 10 then 1 else 0) := mHasRut_eq hy
      have hl : ld μ 62 555 (wI (wI (wI (36 + wI (3 * x1)) + x2) - 10)) = some (μ 62 (0 + 36 + (3 * x1 + (x2 - 10)).toNat)) := by
        rw [wI_id (x := 3 * x1) (by omega), wI_id (x := 36 + 3 * x1) (by omega), wI_id (x := 36 + 3 * x1 + x2) (by omega), wI_id (by omega), ld_ok (by omega), show (36 + 3 * x1 + x2 - 10).toNat = 0 + 36 + (3 * x1 + (x2 - 10)).toNat by omega]
      rw [wI_id (x := x2 - 10) (by omega), isWidth_eq, tT (by omega), hr, he, hl]
      have hk : x2 = 10 ∨ x2 = 11 ∨ x2 = 12 := by omega
      by_cases z : μ 65 x1.toNat = -4 ∨ μ 65 x1.toNat = x2 - 10
      · rw [tT ⟨by omega, z⟩, tT z, rut_eq (by omega), Option.bind_some, at_in (by omega), Option.bind_some, Option.bind_some, d1]
        rcases hk with hk | hk | hk <;> subst hk <;> exact ⟨_, rfl, rfl, H⟩
      · rw [tF (fun q => z q.2), tF z]
        rcases hk with hk | hk | hk <;> subst hk <;> exact ⟨_, rfl, rfl, H⟩
    have hw : ¬ (0 ≤ wI (x2 - 10) ∧ wI (x2 - 10) ≤ 2) := by
      by_cases z : -2147483648 ≤ x2 - 10
      · rw [wI_id (by omega)]; omega
      · rw [show x2 - 10 = (x2 - 10 + 4294967296) - 4294967296 by omega, wI_wrap (by omega)]; omega
    rw [isWidth_eq, tF hw, if_neg (show ¬ x2 = 10 by omega), if_neg (show ¬ x2 = 11 by omega), if_neg (show ¬ x2 = 12 by omega)]
    by_cases k20 : 20 ≤ x2 ∧ x2 ≤ 22
    · obtain ⟨d1, d2⟩ := H.toll (k := 3 * x1 + (x2 - 20)) (by omega)
      have hl : ld μ 67 63 (wI (wI (wI (3 * x1) + x2) - 20)) = some (μ 67 (3 * x1 + (x2 - 20)).toNat) := by
        rw [wI_id (x := 3 * x1) (by omega), wI_id (x := 3 * x1 + x2) (by omega), wI_id (by omega), ld_ok (by omega), show (3 * x1 + x2 - 20).toNat = (3 * x1 + (x2 - 20)).toNat by omega]
      rw [wI_id (x := x2 - 20) (by omega), isWidth_eq, tT (by omega), rut_eq (by omega), Option.bind_some, at_in (by omega), hl, Option.bind_some, Option.bind_some, d1]
      have hk : x2 = 20 ∨ x2 = 21 ∨ x2 = 22 := by omega
      rcases hk with hk | hk | hk <;> subst hk <;> exact ⟨_, rfl, rfl, H⟩
    have hw : ¬ (0 ≤ wI (x2 - 20) ∧ wI (x2 - 20) ≤ 2) := by
      by_cases z : -2147483648 ≤ x2 - 20
      · rw [wI_id (by omega)]; omega
      · rw [show x2 - 20 = (x2 - 20 + 4294967296) - 4294967296 by omega, wI_wrap (by omega)]; omega
    rw [isWidth_eq, tF hw, if_neg (show ¬ x2 = 20 by omega), if_neg (show ¬ x2 = 21 by omega), if_neg (show ¬ x2 = 22 by omega)]
    exact ⟨_, rfl, rfl, H⟩
  · refine ⟨-1, ?_, ?_, H⟩
    · unfold ww_yard
      rw [hasYard_eq, c1, if_neg h, Option.bind_some, if_pos rfl]
    · unfold mod_yard
      rw [mIsYard_eq, if_neg h, Option.bind_some, if_pos rfl]
theorem E_cart_ok : E_cart Inv := by
  intro μ H x1 x2 hx1 hx2
  obtain ⟨c1, c2, c3, c4, c5, c6⟩ := H.c
  unfold ww_cart mod_cart
  rw [hasCart_eq, mIsCart_eq c5, c2, in_eq]
  by_cases h : 0 ≤ x1 ∧ x1 < μ 62 0
  · rw [tT h, tT h]
    by_cases h2 : 0 ≤ x2 ∧ x2 ≤ 6
    · rw [tT h2, if_neg (by omega), if_neg (by omega), part_eq (by omega), of_eq (by omega), Option.bind_some, Option.bind_some]
      exact ⟨_, rfl, by rw [← H.prt (by omega)], H⟩
    · rw [tF h2]
      refine ⟨-1, ?_, rfl, H⟩
      by_cases h0 : x2 < 0
      · rw [if_pos h0]
      · rw [if_neg h0, if_pos (by omega)]
  · rw [tF h, tF h]; exact ⟨_, rfl, rfl, H⟩
theorem E_frost_ok : E_frost Inv := by
  intro μ H x1 hx1
  unfold ww_frost mod_frost
  rw [isHour_eq, mIsHour_eq]
  by_cases h : 1 ≤ x1 ∧ x1 ≤ 60
  · obtain ⟨f1, f2⟩ := H.fro (h := x1) (by omega)
    rw [tT h, tT h, f1, wI_id (by omega), ld_ok (by omega), Option.bind_some, show (99 + x1).toNat = 0 + 99 + x1.toNat by omega]
    rcases f2 with f2 | f2 <;> rw [f2] <;> exact ⟨_, rfl, rfl, H⟩
  · rw [tF h, tF h]; exact ⟨_, rfl, rfl, H⟩
theorem E_cost_ok : E_cost Inv := by
  intro μ H x1 hx1
  unfold ww_cost mod_cost
  rw [isPeoples_eq, areSome_eq]
  by_cases h : 1 ≤ x1 ∧ x1 ≤ 7
  · obtain ⟨f1, f2⟩ := H.cst (i := x1) (by omega)
    rw [tT h, tT h, at_in (by omega), wI_id (by omega), ld_ok (by omega), Option.bind_some, Option.bind_some, show (160 + x1).toNat = 0 + 160 + x1.toNat by omega]
    exact ⟨_, rfl, by rw [f1], H⟩
  · rw [tF h, tF h]; exact ⟨_, rfl, rfl, H⟩
theorem E_count_ok : E_count Inv := by
  intro μ H x1 hx1
  obtain ⟨c1, c2, c3, c4, c5, c6⟩ := H.c
  unfold ww_count mod_count
  by_cases k0 : x1 = 0
  · rw [if_pos k0, if_pos k0, c1]; exact ⟨_, rfl, rfl, H⟩
  rw [if_neg k0, if_neg k0]
  by_cases k1 : x1 = 1
  · rw [if_pos k1, if_pos k1, c2]; exact ⟨_, rfl, rfl, H⟩
  rw [if_neg k1, if_neg k1]
  by_cases k2 : x1 = 2
  · rw [if_pos k2, if_pos k2, c3]; exact ⟨_, rfl, rfl, H⟩
  rw [if_neg k2, if_neg k2]
  by_cases k3 : x1 = 3
  · obtain ⟨i1, i2, i3, -⟩ := H.2.1
    rw [if_pos k3, if_pos k3, flag_eq, flag_eq, i3, Option.bind_some, Option.bind_some]
    refine ⟨_, ?_, rfl, H⟩
    rcases i1 with i1 | i1 <;> rcases i2 with i2 | i2 <;> rw [i1, i2] <;> unfold jin_bitCount bnd <;> decide +kernel
  rw [if_neg k3, if_neg k3]
  by_cases k4 : x1 = 4
  · rw [if_pos k4, if_pos k4, H.2.2.1.2.1]; exact ⟨_, rfl, rfl, H⟩
  rw [if_neg k4, if_neg k4]
  by_cases k5 : x1 = 5
  · rw [if_pos k5, if_pos k5]
    have hs := H.2.2.2.1 0 (by omega) (by omega)
    unfold she_cellsOf
    rw [if_neg (by omega), if_neg (by omega), ld_ok (by omega), Option.bind_some, Option.bind_some]
    rcases hs with ⟨s1, s2⟩ | ⟨s1, s2, s3, s4, s5⟩
    · rw [show μ 85 0 = -4 from s2, if_pos rfl, show μ 60 (0 : Int).toNat = -4 from s1]; exact ⟨_, rfl, rfl, H⟩
    · rw [if_neg (show ¬ μ 85 0 = -4 from fun z => by have : 0 ≤ μ 85 0 := s4.1; omega), show μ 86 0 = μ 60 0 from s2]; exact ⟨_, rfl, rfl, H⟩
  rw [if_neg k5, if_neg k5]
  exact ⟨_, rfl, rfl, H⟩
def firmP (R : Rd) (a b c : Int) : Prop := a + b + c = R 7 7 ∧ a ≤ R 7 1 ∧ b ≤ R 7 2 ∧ c ≤ R 7 4 ∧ a + b ≤ R 7 3 ∧ a + c ≤ R 7 5 ∧ b + c ≤ R 7 6
theorem isFirm_eq {μ : Mem} (H : Inv μ) {a b c : Int} (h : -1000 ≤ a ∧ a ≤ 1000 ∧ -1000 ≤ b ∧ b ≤ 1000 ∧ -1000 ≤ c ∧ c ≤ 1000) : (firmP (mR μ 0) a b c → roa_isFirm 1 μ a b c = some 1) ∧ (¬ firmP (mR μ 0) a b c → roa_isFirm 1 μ a b c = some 0) := by
  have f7 := (H.cst (i := 7) (by omega)).1
  have f1 := (H.cst (i := 1) (by omega)).1
  have f2 := (H.cst (i := 2) (by omega)).1
  have f4 := (H.cst (i := 4) (by omega)).1
  have f3 := (H.cst (i := 3) (by omega)).1
  have f5 := (H.cst (i := 5) (by omega)).1
  have f6 := (H.cst (i := 6) (by omega)).1
  unfold roa_isFirm firmP
  rw [at_in (by omega), at_in (by omega), at_in (by omega), at_in (by omega), at_in (by omega), at_in (by omega), at_in (by omega), wI_id (x := a + b) (by omega), wI_id (x := a + b + c) (by omega), wI_id (x := a + c) (by omega), wI_id (x := b + c) (by omega), f7, f1, f2, f4, f3, f5, f6]
  simp only [Option.bind_some]
  show (a + b + c = μ 62 (0 + 160 + (7 : Int).toNat) ∧ a ≤ μ 62 (0 + 160 + (1 : Int).toNat) ∧ b ≤ μ 62 (0 + 160 + (2 : Int).toNat) ∧ c ≤ μ 62 (0 + 160 + (4 : Int).toNat) ∧ a + b ≤ μ 62 (0 + 160 + (3 : Int).toNat) ∧ a + c ≤ μ 62 (0 + 160 + (5 : Int).toNat) ∧ b + c ≤ μ 62 (0 + 160 + (6 : Int).toNat) → _) ∧ (¬ (a + b + c = μ 62 (0 + 160 + (7 : Int).toNat) ∧ a ≤ μ 62 (0 + 160 + (1 : Int).toNat) ∧ b ≤ μ 62 (0 + 160 + (2 : Int).toNat) ∧ c ≤ μ 62 (0 + 160 + (4 : Int).toNat) ∧ a + b ≤ μ 62 (0 + 160 + (3 : Int).toNat) ∧ a + c ≤ μ 62 (0 + 160 + (5 : Int).toNat) ∧ b + c ≤ μ 62 (0 + 160 + (6 : Int).toNat)) → _)
  clear f1 f2 f3 f4 f5 f6 f7
  generalize μ 62 (0 + 160 + (7 : Int).toNat) = g7
  generalize μ 62 (0 + 160 + (1 : Int).toNat) = g1
  generalize μ 62 (0 + 160 + (2 : Int).toNat) = g2
  generalize μ 62 (0 + 160 + (4 : Int).toNat) = g4
  generalize μ 62 (0 + 160 + (3 : Int).toNat) = g3
  generalize μ 62 (0 + 160 + (5 : Int).toNat) = g5
  generalize μ 62 (0 + 160 + (6 : Int).toNat) = g6
  clear H
  constructor
  · rintro ⟨h1, h2, h3, h4, h5, h6, h7⟩
    rw [if_pos h1, if_neg (by omega), if_neg (by omega), if_neg (by omega), if_neg (by omega), if_neg (by omega), if_neg (by omega)]
  · intro hn
    grind
theorem areFirm_eq {μ : Mem} {a b c : Int} (h : -1000 ≤ a ∧ a ≤ 1000 ∧ -1000 ≤ b ∧ b ≤ 1000 ∧ -1000 ≤ c ∧ c ≤ 1000) : (firmP (mR μ 0) a b c → mod_areFirm μ a b c = some 1) ∧ (¬ firmP (mR μ 0) a b c → mod_areFirm μ a b c = some 0) := by
  unfold mod_areFirm mod_areFirm_41 firmP
  show (a + b + c = μ 62 167 ∧ a ≤ μ 62 161 ∧ b ≤ μ 62 162 ∧ c ≤ μ 62 164 ∧ a + b ≤ μ 62 163 ∧ a + c ≤ μ 62 165 ∧ b + c ≤ μ 62 166 → _) ∧ (¬ (a + b + c = μ 62 167 ∧ a ≤ μ 62 161 ∧ b ≤ μ 62 162 ∧ c ≤ μ 62 164 ∧ a + b ≤ μ 62 163 ∧ a + c ≤ μ 62 165 ∧ b + c ≤ μ 62 166) → _)
  rw [wI_id (x := a + b) (by omega), wI_id (x := a + b + c) (by omega), wI_id (x := a + c) (by omega), wI_id (x := b + c) (by omega)]
  generalize μ 62 167 = g7
  generalize μ 62 161 = g1
  generalize μ 62 162 = g2
  generalize μ 62 164 = g4
  generalize μ 62 163 = g3
  generalize μ 62 165 = g5
  generalize μ 62 166 = g6
  constructor
  · rintro ⟨h1, h2, h3, h4, h5, h6, h7⟩
    rw [if_neg (by omega), if_neg (by omega), if_neg (by omega), if_neg (by omega), if_pos h1, if_neg (by omega), if_neg (by omega), if_neg (by omega)]
  · intro hn
    grind
theorem E_firm_ok : E_firm Inv := by
  intro μ H x1 x2 x3 h1 h2 h3
  unfold ww_firm mod_firm
  rw [isShare_eq, mIsShare_eq, isShare_eq, mIsShare_eq, isShare_eq, mIsShare_eq]
  by_cases k1 : 0 ≤ x1 ∧ x1 ≤ 60
  · rw [tT k1, tT k1]
    by_cases k2 : 0 ≤ x2 ∧ x2 ≤ 60
    · rw [tT k2, tT k2]
      by_cases k3 : 0 ≤ x3 ∧ x3 ≤ 60
      · rw [tT k3, tT k3]
        by_cases f : firmP (mR μ 0) x1 x2 x3
        · rw [(isFirm_eq H (by omega)).1 f, (areFirm_eq (by omega)).1 f]; exact ⟨1, rfl, rfl, H⟩
        · rw [(isFirm_eq H (by omega)).2 f, (areFirm_eq (by omega)).2 f]; exact ⟨0, rfl, rfl, H⟩
      · rw [tF k3, tF k3]; exact ⟨_, rfl, rfl, H⟩
    · rw [tF k2, tF k2]; exact ⟨_, rfl, rfl, H⟩
  · rw [tF k1, tF k1]; exact ⟨_, rfl, rfl, H⟩
/-! ===== shares ===== -/
noncomputable def stS (R : Rd) (a b : Int) (s : Int × Int) : Int × Int := @ite _ (0 ≤ R 7 7 - a - b ∧ firmP R a b (R 7 7 - a - b)) (Classical.propDecidable _) (s.1 + 1, if s.1 = 0 then 10000 * a + 100 * b + (R 7 7 - a - b) else s.2) s
noncomputable def inS (R : Rd) (a : Int) : Nat → Int → Int × Int → Int × Int
  | 0, _, s => s
  | f + 1, b, s => inS R a f (b + 1) (stS R a b s)
noncomputable def outS (R : Rd) : Nat → Int → Int × Int → Int × Int
  | 0, _, s => s
  | f + 1, a, s => outS R f (a + 1) (inS R a 61 0 s)
theorem stS_no {R : Rd} {a b : Int} {s : Int × Int} (h : R 7 7 < a + b) : stS R a b s = s := by
  unfold stS; rw [if_neg (fun z => by omega)]
theorem inS_no {R : Rd} {a : Int} : ∀ (f : Nat) (b : Int) (s : Int × Int), R 7 7 < a + b → inS R a f b s = s := by
  intro f
  induction f with
  | zero => intro b s _; rfl
  | succ f ih => intro b s h; rw [inS, stS_no h, ih _ _ (by omega)]
theorem inS_add {R : Rd} {a : Int} : ∀ (f g : Nat) (b : Int) (s : Int × Int), inS R a (f + g) b s = inS R a g (b + f) (inS R a f b s) := by
  intro f
  induction f with
  | zero => intro g b s; simp [inS]
  | succ f ih => intro g b s; rw [show f + 1 + g = (f + g) + 1 by omega, inS, ih, inS, show b + ((f + 1 : Nat) : Int) = b + 1 + f by omega]
theorem outS_no {R : Rd} : ∀ (f : Nat) (a : Int) (s : Int × Int), R 7 7 < a → outS R f a s = s := by
  intro f
  induction f with
  | zero => intro a s _; rfl
  | succ f ih => intro a s h; rw [outS, inS_no _ _ _ (by omega), ih _ _ (by omega)]
theorem outS_add {R : Rd} : ∀ (f g : Nat) (a : Int) (s : Int × Int), outS R (f + g) a s = outS R g (a + f) (outS R f a s) := by
  intro f
  induction f with
  | zero => intro g b s; simp [outS]
  | succ f ih => intro g b s; rw [show f + 1 + g = (f + g) + 1 by omega, outS, ih, outS, show b + ((f + 1 : Nat) : Int) = b + 1 + f by omega]
theorem stS_b {R : Rd} {a b : Int} {s : Int × Int} : s.1 ≤ (stS R a b s).1 ∧ (stS R a b s).1 ≤ s.1 + 1 := by
  unfold stS
  split <;> simp <;> omega
theorem inS_b {R : Rd} {a : Int} : ∀ (f : Nat) (b : Int) (s : Int × Int), s.1 ≤ (inS R a f b s).1 ∧ (inS R a f b s).1 ≤ s.1 + f := by
  intro f
  induction f with
  | zero => intro b s; simp [inS]
  | succ f ih =>
    intro b s
    rw [inS]
    have := ih (b + 1) (stS R a b s)
    have := stS_b (R := R) (a := a) (b := b) (s := s)
    omega
theorem wsh_42 {μ : Mem} (H : Inv μ) (k : Int → Int → Int → Int → Int → Option Int) (x1 a : Int) (ha : 0 ≤ a ∧ a ≤ 60) : ∀ (m f : Nat) (b : Int) (s : Int × Int), m < f → 0 ≤ b → b ≤ 61 → 0 ≤ s.1 → s.1 + m ≤ 1000000 → b + m = mR μ 0 7 7 - a + 1 → ww_shares_42 μ k f x1 (mR μ 0 7 7) s.1 s.2 a b = k x1 (mR μ 0 7 7) (inS (mR μ 0) a m b s).1 (inS (mR μ 0) a m b s).2 (a + 1) := by
  have hA : 0 ≤ mR μ 0 7 7 ∧ mR μ 0 7 7 ≤ 60 := (H.cst (i := 7) (by omega)).2
  intro m
  induction m with
  | zero =>
    intro f b s hf h0 h6 hs1 hs2 he
    obtain ⟨f, rfl⟩ : ∃ g, f = g + 1 := ⟨f - 1, by omega⟩
    rw [ww_shares_42.eq_2, wI_id (x := mR μ 0 7 7 - a) (by omega), if_pos (by omega), wI_id (by omega)]; rfl
  | succ m ih =>
    intro f b s hf h0 h6 hs1 hs2 he
    obtain ⟨f, rfl⟩ : ∃ g, f = g + 1 := ⟨f - 1, by omega⟩
    rw [ww_shares_42.eq_2, wI_id (x := mR μ 0 7 7 - a) (by omega), if_neg (by omega), wI_id (x := mR μ 0 7 7 - a - b) (by omega)]
    unfold ww_shares_98 ww_shares_101 bnd
    rw [inS]
    by_cases fm : firmP (mR μ 0) a b (mR μ 0 7 7 - a - b)
    · rw [(isFirm_eq H (by omega)).1 fm, Option.bind_some, if_neg (by omega), wI_id (x := b + 1) (by omega), wI_id (x := s.1 + 1) (by omega)]
      have e : stS (mR μ 0) a b s = (s.1 + 1, if s.1 = 0 then 10000 * a + 100 * b + (mR μ 0 7 7 - a - b) else s.2) := by
        unfold stS; rw [if_pos ⟨by omega, fm⟩]
      rw [e]
      by_cases z : s.1 = 0
      · rw [if_pos z, if_pos z, wI_id (x := 10000 * a) (by omega), wI_id (x := 100 * b) (by omega), wI_id (x := 10000 * a + 100 * b) (by omega), wI_id (x := 10000 * a + 100 * b + mR μ 0 7 7) (by omega), wI_id (x := 10000 * a + 100 * b + mR μ 0 7 7 - a) (by omega), wI_id (by omega), show 10000 * a + 100 * b + mR μ 0 7 7 - a - b = 10000 * a + 100 * b + (mR μ 0 7 7 - a - b) by omega]
        exact ih f (b + 1) (s.1 + 1, 10000 * a + 100 * b + (mR μ 0 7 7 - a - b)) (by omega) (by omega) (by omega) (by show 0 ≤ s.1 + 1; omega) (by show s.1 + 1 + m ≤ 1000000; omega) (by omega)
      · rw [if_neg z, if_neg z]
        exact ih f (b + 1) (s.1 + 1, s.2) (by omega) (by omega) (by omega) (by show 0 ≤ s.1 + 1; omega) (by show s.1 + 1 + m ≤ 1000000; omega) (by omega)
    · rw [(isFirm_eq H (by omega)).2 fm, Option.bind_some, if_pos rfl, wI_id (x := b + 1) (by omega)]
      have e : stS (mR μ 0) a b s = s := by
        unfold stS; rw [if_neg (fun z => fm z.2)]
      rw [e]
      exact ih f (b + 1) s (by omega) (by omega) (by omega) hs1 (by omega) (by omega)
theorem msh_30 {μ : Mem} (H : Inv μ) (k : Int → Int → Int → Int → Option Int) (x1 a : Int) (ha : 0 ≤ a ∧ a ≤ 60) : ∀ (m f : Nat) (b : Int) (s : Int × Int), m < f → 0 ≤ b → b + m = 61 → 0 ≤ s.1 → s.1 + m ≤ 1000000 → mod_shares_30 μ k f x1 s.1 s.2 a b = k x1 (inS (mR μ 0) a m b s).1 (inS (mR μ 0) a m b s).2 (a + 1) := by
  have hA : 0 ≤ mR μ 0 7 7 ∧ mR μ 0 7 7 ≤ 60 := (H.cst (i := 7) (by omega)).2
  have hA' : μ 62 167 = mR μ 0 7 7 := rfl
  intro m
  induction m with
  | zero =>
    intro f b s hf h0 h6 hs1 hs2
    obtain ⟨f, rfl⟩ : ∃ g, f = g + 1 := ⟨f - 1, by omega⟩
    rw [mod_shares_30.eq_2, if_pos (by omega), wI_id (by omega)]; rfl
  | succ m ih =>
    intro f b s hf h0 h6 hs1 hs2
    obtain ⟨f, rfl⟩ : ∃ g, f = g + 1 := ⟨f - 1, by omega⟩
    rw [mod_shares_30.eq_2, if_neg (by omega), hA', wI_id (x := mR μ 0 7 7 - a) (by omega), wI_id (x := mR μ 0 7 7 - a - b) (by omega)]
    unfold mod_shares_97 mod_shares_101 bnd
    dsimp only
    rw [inS, mIsShare_eq]
    by_cases fm : 0 ≤ mR μ 0 7 7 - a - b ∧ firmP (mR μ 0) a b (mR μ 0 7 7 - a - b)
    · rw [tT (by omega), (areFirm_eq (by omega)).1 fm.2, Option.bind_some, if_neg (by omega), wI_id (x := b + 1) (by omega), wI_id (x := s.1 + 1) (by omega)]
      have e : stS (mR μ 0) a b s = (s.1 + 1, if s.1 = 0 then 10000 * a + 100 * b + (mR μ 0 7 7 - a - b) else s.2) := by
        unfold stS; rw [if_pos fm]
      rw [e]
      by_cases z : s.1 = 0
      · rw [if_pos z, if_pos z, wI_id (x := 10000 * a) (by omega), wI_id (x := 100 * b) (by omega), wI_id (x := 10000 * a + 100 * b) (by omega), wI_id (by omega)]
        exact ih f (b + 1) (s.1 + 1, 10000 * a + 100 * b + (mR μ 0 7 7 - a - b)) (by omega) (by omega) (by omega) (by show 0 ≤ s.1 + 1; omega) (by show s.1 + 1 + m ≤ 1000000; omega)
      · rw [if_neg z, if_neg z]
        exact ih f (b + 1) (s.1 + 1, s.2) (by omega) (by omega) (by omega) (by show 0 ≤ s.1 + 1; omega) (by show s.1 + 1 + m ≤ 1000000; omega)
    · have e : stS (mR μ 0) a b s = s := by
        unfold stS; rw [if_neg fm]
      rw [e, wI_id (x := b + 1) (by omega)]
      by_cases sh : 0 ≤ mR μ 0 7 7 - a - b ∧ mR μ 0 7 7 - a - b ≤ 60
      · rw [tT sh, (areFirm_eq (by omega)).2 (fun z => fm ⟨sh.1, z⟩), Option.bind_some, if_pos rfl]
        exact ih f (b + 1) s (by omega) (by omega) (by omega) hs1 (by omega)
      · rw [tF sh]
        exact ih f (b + 1) s (by omega) (by omega) (by omega) hs1 (by omega)
theorem wsh_33 {μ : Mem} (H : Inv μ) (x1 : Int) : ∀ (m f : Nat) (a : Int) (s : Int × Int), m < f → 0 ≤ a → 0 ≤ s.1 → s.1 + 61 * m ≤ 900000 → a + m = mR μ 0 7 7 + 1 → ww_shares_33 μ f x1 (mR μ 0 7 7) s.1 s.2 a = some (if x1 = 0 then (outS (mR μ 0) m a s).1 else (outS (mR μ 0) m a s).2) := by
  have hA : 0 ≤ mR μ 0 7 7 ∧ mR μ 0 7 7 ≤ 60 := (H.cst (i := 7) (by omega)).2
  intro m
  induction m with
  | zero =>
    intro f a s hf h0 hs1 hs2 he
    obtain ⟨f, rfl⟩ : ∃ g, f = g + 1 := ⟨f - 1, by omega⟩
    rw [ww_shares_33.eq_2, if_pos (by omega), outS]
    split <;> rfl
  | succ m ih =>
    intro f a s hf h0 hs1 hs2 he
    obtain ⟨f, rfl⟩ : ∃ g, f = g + 1 := ⟨f - 1, by omega⟩
    obtain ⟨q, hq⟩ : ∃ q : Nat, (q : Int) = mR μ 0 7 7 - a + 1 := ⟨(mR μ 0 7 7 - a + 1).toNat, by omega⟩
    have hb := inS_b (R := mR μ 0) (a := a) q 0 s
    rw [ww_shares_33.eq_2, if_neg (by omega), wsh_42 H _ x1 a (by omega) q BIG 0 s (by have := BIG_gt; omega) (by omega) (by omega) hs1 (by omega) (by omega)]
    have e : inS (mR μ 0) a 61 0 s = inS (mR μ 0) a q 0 s := by
      obtain ⟨g, hg⟩ : ∃ g, 61 = q + g := ⟨61 - q, by omega⟩
      rw [hg, inS_add, inS_no _ _ _ (by omega)]
    rw [ih f (a + 1) (inS (mR μ 0) a q 0 s) (by omega) (by omega) (by omega) (by omega) (by omega), outS, e]
theorem msh_20 {μ : Mem} (H : Inv μ) (x1 : Int) : ∀ (m f : Nat) (a : Int) (s : Int × Int), m < f → 0 ≤ a → 0 ≤ s.1 → s.1 + 61 * m ≤ 900000 → a + m = 61 → mod_shares_20 μ f x1 s.1 s.2 a = some (if x1 = 0 then (outS (mR μ 0) m a s).1 else (outS (mR μ 0) m a s).2) := by
  intro m
  induction m with
  | zero =>
    intro f a s hf h0 hs1 hs2 he
    obtain ⟨f, rfl⟩ : ∃ g, f = g + 1 := ⟨f - 1, by omega⟩
    rw [mod_shares_20.eq_2, if_pos (by omega), outS]
    split <;> rfl
  | succ m ih =>
    intro f a s hf h0 hs1 hs2 he
    obtain ⟨f, rfl⟩ : ∃ g, f = g + 1 := ⟨f - 1, by omega⟩
    have hb := inS_b (R := mR μ 0) (a := a) 61 0 s
    rw [mod_shares_20.eq_2, if_neg (by omega), msh_30 H _ x1 a (by omega) 61 BIG 0 s (by have := BIG_gt; omega) (by omega) (by omega) hs1 (by omega)]
    rw [ih f (a + 1) (inS (mR μ 0) a 61 0 s) (by omega) (by omega) (by omega) (by omega) (by omega), outS]
theorem E_shares_ok : E_shares Inv := by
  intro μ H x1 h1
  have hA : 0 ≤ mR μ 0 7 7 ∧ mR μ 0 7 7 ≤ 60 := (H.cst (i := 7) (by omega)).2
  unfold ww_shares mod_shares
  rw [in_eq]
  by_cases h : 0 ≤ x1 ∧ x1 ≤ 1
  · rw [tT h, if_neg (by omega), if_pos (by omega), at_in (by omega), Option.bind_some, show μ 7 (7 : Int).toNat = mR μ 0 7 7 from (H.cst (i := 7) (by omega)).1]
    obtain ⟨q, hq⟩ : ∃ q : Nat, (q : Int) = mR μ 0 7 7 + 1 := ⟨(mR μ 0 7 7 + 1).toNat, by omega⟩
    have e1 := wsh_33 H x1 q BIG 0 (0, -4) (by have := BIG_gt; omega) (by omega) (by show (0:Int) ≤ 0; omega) (by show (0:Int) + 61 * q ≤ 900000; omega) (by omega)
    have e2 := msh_20 H x1 61 BIG 0 (0, -4) (by have := BIG_gt; omega) (by omega) (by show (0:Int) ≤ 0; omega) (by show (0:Int) + 61 * 61 ≤ 900000; omega) (by omega)
    have e : outS (mR μ 0) 61 0 (0, -4) = outS (mR μ 0) q 0 (0, -4) := by
      obtain ⟨g, hg⟩ : ∃ g, 61 = q + g := ⟨61 - q, by omega⟩
      rw [hg, outS_add, outS_no _ _ _ (by omega)]
    rw [e] at e2
    exact ⟨_, e1, e2, H⟩
  · rw [tF h]
    refine ⟨-1, ?_, rfl, H⟩
    by_cases h0 : x1 < 0
    · rw [if_pos h0]
    · rw [if_neg h0, if_neg (by omega)]
