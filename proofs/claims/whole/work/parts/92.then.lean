/-! ===== acts ===== -/
def openP (R : Rd) (c y w : Int) : Prop := pt R c 0 = 2 ∨ (hasRutP R y w ∧ R 5 (3 * y + w) ≤ pt R c 3)
noncomputable def stepP (R : Rd) (c y w : Int) : Int := @ite _ ((0 ≤ y ∧ y ≤ R 0 0) ∧ openP R c y w) (Classical.propDecidable _) (3 * y + w) (-4)
noncomputable def thenP (R : Rd) (c s act : Int) : Int := if R 0 0 < s / 3 then -4 else if 1 < act then (if R 2 (s / 3) ≠ -4 ∧ act - 2 ≠ s % 3 ∧ pt R c 0 ≠ 3 then 3 * (s / 3) + (act - 2) else -4) else if act = 0 then stepP R c (s / 3 + 1) (s % 3) else stepP R c (s / 3 - 1) (s % 3)
theorem stepP_in {R : Rd} {c y w : Int} (hb : R 0 0 ≤ 20) (hw : 0 ≤ w ∧ w < 3) : stepP R c y w = -4 ∨ (0 ≤ stepP R c y w ∧ stepP R c y w < 63) ∧ stepP R c y w / 3 ≤ R 0 0 := by
  unfold stepP
  split
  · next h => right; omega
  · left; rfl
theorem thenP_in {R : Rd} {c s act : Int} (hb : R 0 0 ≤ 20) (hs : 0 ≤ s) (ha : 0 ≤ act ∧ act < 5) : thenP R c s act = -4 ∨ (0 ≤ thenP R c s act ∧ thenP R c s act < 63) ∧ thenP R c s act / 3 ≤ R 0 0 := by
  unfold thenP
  split
  · left; rfl
  · split
    · split
      · right; omega
      · left; rfl
    · split
      · exact stepP_in hb (by omega)
      · exact stepP_in hb (by omega)
theorem isOpenNo {μ : Mem} {R : Rd} {c y w d : Int} (hR : RC μ 1 R) (hO : Ok R) (hc : 0 ≤ c ∧ c < R 0 1) (hy : ¬ (0 ≤ y ∧ y ≤ R 0 0)) : roa_isOpen 1 μ c y w d = some 0 := by
  have hb := hO.r.1
  unfold roa_isOpen
  rw [cpart hR.r (by omega) (by omega), Option.bind_some, hasYard_eq, hR.1.1, if_neg hy, hasRut_eq (by rw [hR.1.1]; omega), hR.1.1]
  by_cases z : pt R c 0 = 2
  · rw [if_pos z]; rfl
  · rw [if_neg z, tF (show ¬ ((0 ≤ y ∧ y ≤ R 0 0) ∧ (0 ≤ w ∧ w ≤ 2) ∧ (μ (1 + 1) y.toNat = -4 ∨ μ (1 + 1) y.toNat = w)) from fun q => hy q.1)]
theorem isOpenW {μ : Mem} {R : Rd} {c y w d : Int} (hR : RC μ 1 R) (hO : Ok R) (hc : 0 ≤ c ∧ c < R 0 1) (hy : 0 ≤ y ∧ y ≤ R 0 0) (hw : 0 ≤ w ∧ w < 3) : (pt R c 0 = 2 ∨ (hasRutP R y w ∧ d ≤ pt R c 3) → roa_isOpen 1 μ c y w d = some 1) ∧ (¬ (pt R c 0 = 2 ∨ (hasRutP R y w ∧ d ≤ pt R c 3)) → roa_isOpen 1 μ c y w d = some 0) := by
  have hb := hO.r.1
  have e1 : μ (1 + 1) y.toNat = R 1 y := hR.2.1 y (by omega) (by omega)
  unfold roa_isOpen hasRutP
  rw [cpart hR.r (by omega) (by omega), Option.bind_some, hasYard_eq, hR.1.1, if_pos hy, hasRut_eq (by rw [hR.1.1]; omega), hR.1.1, e1, cpart hR.r (by omega) (by omega)]
  by_cases z1 : pt R c 0 = 2
  · rw [if_pos z1]
    exact ⟨fun _ => rfl, fun n => absurd (Or.inl z1) n⟩
  · rw [if_neg z1]
    by_cases z2 : R 1 y = -4 ∨ R 1 y = w
    · rw [tT (show (0 ≤ y ∧ y ≤ R 0 0) ∧ (0 ≤ w ∧ w ≤ 2) ∧ (R 1 y = -4 ∨ R 1 y = w) from ⟨hy, by omega, z2⟩), Option.bind_some]
      by_cases z3 : pt R c 3 < d
      · rw [if_pos z3]
        exact ⟨fun q => by rcases q with q | q; exact absurd q z1; omega, fun _ => rfl⟩
      · rw [if_neg z3]
        exact ⟨fun _ => rfl, fun n => absurd (Or.inr ⟨z2, by omega⟩) n⟩
    · rw [tF (show ¬ ((0 ≤ y ∧ y ≤ R 0 0) ∧ (0 ≤ w ∧ w ≤ 2) ∧ (R 1 y = -4 ∨ R 1 y = w)) from fun q => z2 q.2.2)]
      exact ⟨fun q => by rcases q with q | q; exact absurd q z1; exact absurd q.1 z2, fun _ => rfl⟩
theorem cstep {μ : Mem} {R : Rd} {c y w : Int} (hR : RC μ 1 R) (hO : Ok R) (h51 : μ 51 2 = c) (hc : 0 ≤ c ∧ c < R 0 1) (hy : -10 ≤ y ∧ y ≤ 30) (hw : 0 ≤ w ∧ w < 3) : way_standBehind_103 μ w y = some (stepP R c y w) := by
  have hb := hO.r.1
  unfold way_standBehind_103 stepP openP
  rw [rut_eq (by omega), Option.bind_some, h51]
  by_cases hy2 : 0 ≤ y ∧ y ≤ R 0 0
  · have hd := hR.2.2.2.2.2.1 (3 * y + w) (by omega) (by omega)
    have ho := isOpenW (c := c) (y := y) (w := w) (d := R 5 (3 * y + w)) hR hO hc hy2 hw
    rw [at_in (by omega), Option.bind_some, show μ 5 (3 * y + w).toNat = _ from hd]
    by_cases z : pt R c 0 = 2 ∨ (hasRutP R y w ∧ R 5 (3 * y + w) ≤ pt R c 3)
    · rw [ho.1 z, Option.bind_some, if_neg (by omega), Option.bind_some, if_pos ⟨hy2, z⟩]
    · rw [ho.2 z, Option.bind_some, if_pos rfl, if_neg (fun q => z q.2)]
  · rw [if_neg (fun q => hy2 q.1)]
    have e : ∃ v, ww_at 5 63 μ (3 * y + w) = some v := by
      by_cases q : 0 ≤ 3 * y + w ∧ 3 * y + w < ((63 : Nat) : Int)
      · exact ⟨_, at_in q⟩
      · exact ⟨_, at_out q⟩
    obtain ⟨v, hv⟩ := e
    rw [hv, Option.bind_some, isOpenNo hR hO hc hy2, Option.bind_some, if_pos rfl]
theorem cstand {μ : Mem} {R : Rd} {c s act : Int} (hR : RC μ 1 R) (hO : Ok R) (h51 : μ 51 2 = c) (hc : 0 ≤ c ∧ c < R 0 1) (hs : 0 ≤ s ∧ s < 63) (ha : 0 ≤ act ∧ act < 5) : way_standBehind μ s act = some (thenP R c s act) := by
  have hb := hO.r.1
  rw [way_standBehind.eq_1, bnd.eq_1, bnd.eq_1, iDiv_eq (by omega) (by omega), iRem_eq (by omega) (by omega), hasYard_eq, hR.1.1]
  unfold thenP
  by_cases h : R 0 0 < s / 3
  · rw [tF (by omega), if_pos h]
  · rw [tT (by omega), if_neg h]
    by_cases h1 : 1 < act
    · have e2 : μ (1 + 2) (s / 3).toNat = R 2 (s / 3) := hR.2.2.1 _ (by omega) (by omega)
      have e70 : way_standBehind_70 μ act (s / 3) 0 = some (-4) := by rw [way_standBehind_70.eq_1, if_pos rfl]
      have e71 : way_standBehind_70 μ act (s / 3) 1 = some (3 * (s / 3) + (act - 2)) := by rw [way_standBehind_70.eq_1, if_neg (by omega), wI_id (by omega), rut_eq (by omega), Option.bind_some]
      rw [if_neg (by omega), if_pos h1, wI_id (by omega), smithAt_in (by omega), Option.bind_some, e2, h51, cpart hR.r (by omega) (by omega), Option.bind_some, e70, e71]
      by_cases z1 : act - 2 = s % 3
      · rw [if_pos z1, if_neg (fun q => q.2.1 z1)]
      · rw [if_neg z1]
        by_cases z2 : R 2 (s / 3) = -4
        · rw [if_pos z2, if_neg (fun q => q.1 z2)]
        · rw [if_neg z2]
          by_cases z3 : pt R c 0 = 3
          · rw [if_pos z3, if_neg (fun q => q.2.2 z3)]
          · rw [if_neg z3, if_pos ⟨z2, z1, z3⟩]
    · rw [if_pos (by omega), if_neg h1, wI_id (by omega), wI_id (by omega)]
      by_cases z : act = 0
      · rw [if_pos z, if_pos z]
        exact cstep hR hO h51 hc (by omega) (by omega)
      · rw [if_neg z, if_neg z]
        exact cstep hR hO h51 hc (by omega) (by omega)
theorem mstep {ν : Mem} {R : Rd} {c y w : Int} (hM : MC ν 0 R) (hO : Ok R) (hc : 0 ≤ c ∧ c < R 0 1) (hw : 0 ≤ w ∧ w < 3) (hy : -10 ≤ y ∧ y ≤ 30) : mod_then_86 ν c w y = some (stepP R c y w) := by
  have hb := hO.r.1
  unfold mod_then_86 mod_then_150 stepP openP
  rw [mIsYard_eq, hM.1.1]
  by_cases hy2 : 0 ≤ y ∧ y ≤ R 0 0
  · have hd := hM.2.2.2.2.2.1 (3 * y + w) (by omega) (by omega)
    have e1 : ν 65 y.toNat = R 1 y := hM.2.1 y (by omega) (by omega)
    have e5 : ld ν 62 555 (wI (wI (36 + wI (3 * y)) + w)) = some (R 5 (3 * y + w)) := by
      rw [wI_id (x := 3 * y) (by omega), wI_id (x := 36 + 3 * y) (by omega), wI_id (by omega), ld_ok (by omega), ← hd]
      congr 2; omega
    rw [tT hy2, mpart hM (by omega) (by omega), Option.bind_some, wI_id (x := 3 * y) (by omega), wI_id (x := 3 * y + w) (by omega)]
    unfold hasRutP
    by_cases z1 : pt R c 0 = 2
    · rw [if_pos z1, if_neg (by omega), if_pos ⟨hy2, Or.inl z1⟩]
    · rw [if_neg z1, mHasRut_eq (by omega), e1]
      by_cases z2 : R 1 y = -4 ∨ R 1 y = w
      · rw [wI_id (x := 3 * y) (by omega)] at e5
        rw [tT z2, e5, Option.bind_some, mpart hM (by omega) (by omega), Option.bind_some]
        by_cases z3 : pt R c 3 < R 5 (3 * y + w)
        · rw [if_pos z3, if_pos rfl, if_neg (fun q => by rcases q.2 with q | q; exact z1 q; omega)]
        · rw [if_neg z3, if_neg (by omega), if_pos ⟨hy2, Or.inr ⟨z2, by omega⟩⟩]
      · rw [tF z2, if_pos rfl, if_neg (fun q => by rcases q.2 with q | q; exact z1 q; exact z2 q.1)]
  · rw [tF hy2, if_neg (fun q => hy2 q.1)]
theorem mthen {ν : Mem} {R : Rd} {c s act : Int} (hM : MC ν 0 R) (hO : Ok R) (hc : 0 ≤ c ∧ c < R 0 1) (hs : 0 ≤ s ∧ s < 3 * R 0 0 + 3) (ha : 0 ≤ act ∧ act < 5) : mod_then ν c s act = some (thenP R c s act) := by
  have hb := hO.r.1
  rw [mod_then.eq_1, bnd.eq_1, bnd.eq_1, iDiv_eq (by omega) (by omega), iRem_eq (by omega) (by omega)]
  unfold thenP
  rw [if_neg (show ¬ R 0 0 < s / 3 by omega)]
  by_cases h1 : 1 < act
  · have e2 : ν 66 (s / 3).toNat = R 2 (s / 3) := hM.2.2.1 _ (by omega) (by omega)
    have e70 : mod_then_50 ν act (s / 3) (s % 3) = mod_then_50 ν act (s / 3) (s % 3) := rfl
    have f0 : mod_then_50 ν act (s / 3) 0 = some (-4) := by rw [mod_then_50.eq_1, if_pos rfl]
    have f1 : mod_then_50 ν act (s / 3) 1 = some (3 * (s / 3) + (act - 2)) := by
      rw [mod_then_50.eq_1, if_neg (by omega), wI_id (x := 3 * (s / 3)) (by omega), wI_id (x := 3 * (s / 3) + act) (by omega), wI_id (by omega)]
      congr 1; omega
    rw [if_neg (by omega), if_pos h1, ld_ok (by omega), Option.bind_some, e2, wI_id (by omega), mpart hM (by omega) (by omega), Option.bind_some, f0, f1]
    by_cases z2 : R 2 (s / 3) = -4
    · rw [if_pos z2, if_neg (fun q => q.1 z2)]
    · rw [if_neg z2]
      by_cases z1 : act - 2 = s % 3
      · rw [if_pos z1, if_neg (fun q => q.2.1 z1)]
      · rw [if_neg z1]
        by_cases z3 : pt R c 0 = 3
        · rw [if_pos z3, if_neg (fun q => q.2.2 z3)]
        · rw [if_neg z3, if_pos ⟨z2, z1, z3⟩]
  · rw [if_pos (by omega), if_neg h1, wI_id (by omega), wI_id (by omega)]
    by_cases z : act = 0
    · rw [if_pos z, if_pos z]
      exact mstep hM hO hc (by omega) (by omega)
    · rw [if_neg z, if_neg z]
      exact mstep hM hO hc (by omega) (by omega)
