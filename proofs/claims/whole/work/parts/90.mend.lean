/-! ===== mend ===== -/
def stM (μ : Mem) (a b c : Int) : Mem := mset (mset (mset μ 46 7 a) 46 8 b) 46 9 c
theorem setM_eq (μ : Mem) (a b c : Int) : pla_setMending a b c μ = some (stM μ a b c) := by
  rw [pla_setMending.eq_1, bnd.eq_1, bnd.eq_1, bnd.eq_1]; rfl
theorem stM_n {μ : Mem} {a b c : Int} {x j : Nat} (h : ¬ (x = 46 ∧ (j = 7 ∨ j = 8 ∨ j = 9))) : stM μ a b c x j = μ x j := by
  unfold stM; rw [mset_ne (by omega), mset_ne (by omega), mset_ne (by omega)]
theorem stM_v (μ : Mem) (a b c : Int) : stM μ a b c 46 7 = a ∧ stM μ a b c 46 8 = b ∧ stM μ a b c 46 9 = c := by
  unfold stM
  exact ⟨by rw [mset_ne (by omega), mset_ne (by omega), mset_same], by rw [mset_ne (by omega), mset_same], by rw [mset_same]⟩
def wornP (R : Rd) (y : Int) : Prop := R 5 (3 * y) ≠ 0 ∨ R 5 (3 * y + 1) ≠ 0 ∨ R 5 (3 * y + 2) ≠ 0
theorem lev_unworn_l {R : Rd} {a b : Int} (h : ¬ wornP R a) : levP R a b = levP R b b := by
  unfold wornP at h
  funext s k
  unfold levP
  by_cases z : s = 5 ∧ (3 * b ≤ k ∧ k < 3 * b + 3)
  · rw [if_pos ⟨z.1, Or.inr z.2⟩, if_pos ⟨z.1, Or.inr z.2⟩]
  · by_cases y : s = 5 ∧ (3 * a ≤ k ∧ k < 3 * a + 3)
    · rw [if_pos ⟨y.1, Or.inl y.2⟩, if_neg (by omega), y.1]
      have : k = 3 * a ∨ k = 3 * a + 1 ∨ k = 3 * a + 2 := by omega
      rcases this with q | q | q <;> rw [q] <;> omega
    · rw [if_neg (by omega), if_neg (by omega)]
theorem lev_comm (R : Rd) (a b : Int) : levP R a b = levP R b a := by
  funext s k
  unfold levP
  by_cases z : s = 5 ∧ (3 * a ≤ k ∧ k < 3 * a + 3 ∨ 3 * b ≤ k ∧ k < 3 * b + 3)
  · rw [if_pos z, if_pos (by omega)]
  · rw [if_neg z, if_neg (by omega)]
theorem lev_unworn {R : Rd} {a : Int} (h : ¬ wornP R a) : levP R a a = R := by
  unfold wornP at h
  funext s k
  unfold levP
  by_cases y : s = 5 ∧ (3 * a ≤ k ∧ k < 3 * a + 3)
  · rw [if_pos ⟨y.1, Or.inl y.2⟩, y.1]
    have : k = 3 * a ∨ k = 3 * a + 1 ∨ k = 3 * a + 2 := by omega
    rcases this with q | q | q <;> rw [q] <;> omega
  · rw [if_neg (by omega)]
theorem isWorn_eq {μ : Mem} {R : Rd} {y : Int} (hR : RC μ 1 R) (hO : Okr R) (hy : 0 ≤ y ∧ y ≤ 20) : (wornP R y → pla_isWorn μ y = some 1) ∧ (¬ wornP R y → pla_isWorn μ y = some 0) := by
  obtain ⟨f, hf⟩ := BIG8
  have a0 := hR.2.2.2.2.2.1 (3 * y + 0) (by omega) (by omega)
  have a1 := hR.2.2.2.2.2.1 (3 * y + 1) (by omega) (by omega)
  have a2 := hR.2.2.2.2.2.1 (3 * y + 2) (by omega) (by omega)
  have b0 := hO.2.2.2.2.1 (3 * y + 0) (by omega) (by omega)
  have b1 := hO.2.2.2.2.1 (3 * y + 1) (by omega) (by omega)
  have b2 := hO.2.2.2.2.1 (3 * y + 2) (by omega) (by omega)
  rw [show 3 * y + 0 = 3 * y by omega] at a0 b0
  unfold wornP
  have st : ∀ (g : Nat) (w : Int), 0 ≤ w → w < 3 → pla_isWorn_2 μ (g + 1) y w = if R 5 (3 * y + w) ≤ 0 then pla_isWorn_2 μ g y (w + 1) else some 1 := fun g w w1 w2 => by
    have h := hR.2.2.2.2.2.1 (3 * y + w) (by omega) (by omega)
    rw [pla_isWorn_2.eq_2, if_neg (by omega), rut_eq (by omega), Option.bind_some, at_in (by omega), Option.bind_some, show μ 5 (3 * y + w).toNat = _ from h, wI_id (by omega)]
  rw [pla_isWorn.eq_1, hf, st _ _ (by omega) (by omega), st _ _ (by omega) (by omega), st _ _ (by omega) (by omega), pla_isWorn_2.eq_2, if_pos (show (3 : Int) ≤ 0 + 1 + 1 + 1 by omega), show 3 * y + (0 : Int) = 3 * y by omega, show 3 * y + ((0 : Int) + 1) = 3 * y + 1 by omega, show 3 * y + ((0 : Int) + 1 + 1) = 3 * y + 2 by omega]
  constructor
  · intro h
    by_cases z0 : R 5 (3 * y) ≤ 0
    · rw [if_pos z0]
      by_cases z1 : R 5 (3 * y + 1) ≤ 0
      · rw [if_pos z1, if_neg (by omega)]
      · rw [if_neg z1]
    · rw [if_neg z0]
  · intro h
    rw [if_pos (by omega), if_pos (by omega), if_pos (by omega)]
def Cmen (a j : Nat) : Prop := (35 ≤ a ∧ a ≤ 45) ∨ (a = 46 ∧ (j = 7 ∨ j = 8 ∨ j = 9)) ∨ (a = 47 ∧ j = 1) ∨ a = 48
/-- what the loops over yards hold -/
def MnI (R : Rd) (μ : Mem) : Prop := RC μ 1 R ∧ OrdM μ 48 5 (ofL idL) ∧ μ 47 1 = R 0 1
theorem MnI.st {R : Rd} {μ : Mem} {a b c : Int} (H : MnI R μ) : MnI R (stM μ a b c) := by
  refine ⟨H.1.off (fun x h1 h2 => funext fun j => stM_n (by omega)), fun i i1 i2 => ?_, ?_⟩
  · rw [stM_n (by omega)]; exact H.2.1 i i1 i2
  · rw [stM_n (by omega)]; exact H.2.2
theorem stM_off {μ : Mem} {a b c : Int} : Off Cmen μ (stM μ a b c) := fun x j n => stM_n (fun z => n (by unfold Cmen; omega))
theorem idIn (R : Rd) (h : R 0 1 ≤ 5) : inP R (ofL idL) := fun i i1 i2 => by rw [ofL_id i ⟨i1, by omega⟩]; exact ⟨i1, i2⟩
/-- one try: done or not, and all goes on -/
theorem try_eq {R : Rd} {μ : Mem} {x2 x3 : Int} (hO : Okr R) (H : MnI R μ) (hx : x2 < 0 ∧ x3 < 0 ∨ 0 ≤ x2 ∧ x2 ≤ 20 ∧ x3 < 0 ∨ 0 ≤ x2 ∧ x2 ≤ 20 ∧ 0 ≤ x3 ∧ x3 ≤ 20) : ∃ d μ', run_allDone 47 x2 x3 μ = some (d, μ') ∧ Off Cmen μ μ' ∧ μ' 46 = μ 46 ∧ MnI R μ' ∧ (d = 1 ∧ doneP (lvR R x2 x3) (ofL idL) ≠ -4 ∨ d = 0 ∧ doneP (lvR R x2 x3) (ofL idL) = -4) := by
  have hb := hO.1
  obtain ⟨d, μ', a1, a2, a3, a4⟩ := allDone_eq (o1 := 47) (by omega) H.1 hO (idIn R (by omega)) H.2.1 H.2.2 hx
  refine ⟨d, μ', a1, a2.mono (fun a j z => by unfold Crun2 at z; unfold Cmen; omega), a3 46 (by omega), ⟨H.1.off (fun a h1 h2 => a2.cell (fun j => by unfold Crun2; omega)), fun i i1 i2 => by rw [a3 48 (by omega)]; exact H.2.1 i i1 i2, by rw [a3 47 (by omega)]; exact H.2.2⟩, ?_⟩
  rcases a4 with ⟨q1, q2, q3⟩ | ⟨q1, q2⟩
  · exact Or.inl ⟨q1, q2⟩
  · exact Or.inr ⟨q1, q2⟩
theorem lvR_1 (R : Rd) (y : Int) (hy : 0 ≤ y) : lvR R y (-4) = levP R y y := by unfold lvR; rw [if_neg (by omega), if_pos (by omega)]
theorem lvR_2 (R : Rd) (y z : Int) (hy : 0 ≤ y) (hz : 0 ≤ z) : lvR R y z = levP R y z := by unfold lvR; rw [if_neg (by omega), if_neg (by omega)]
theorem m2b_skip {R : Rd} {a : Int} {k : Int × Int × Int} : ∀ (h : Nat) (z : Int), R 0 0 < z + h → (∀ b : Int, z ≤ b → b ≤ R 0 0 → doneP (levP R a b) (ofL idL) = -4) → m2b R a k h z = k := by
  intro h
  induction h with
  | zero => intro z _ _; rfl
  | succ h ih =>
    intro z hz hb
    rw [m2b]
    by_cases y : R 0 0 < z
    · rw [if_pos y]
    · rw [if_neg y, if_neg (fun q => q (hb z (by omega) (by omega)))]
      exact ih (z + 1) (by omega) (fun b b1 b2 => hb b (by omega) b2)
theorem cmen125 {R : Rd} (hO : Okr R) (h1 : ∀ z : Int, 0 ≤ z → z ≤ R 0 0 → doneP (levP R z z) (ofL idL) = -4) (K : Int → Mem → Option Mem) (y : Int) (hy : 0 ≤ y ∧ y ≤ R 0 0) (T : Int × Int × Int) (μ0 : Mem) (hK : ∀ μ : Mem, Off Cmen μ0 μ → MnI R μ → ∃ μ', K (y + 1) μ = some μ' ∧ Off Cmen μ0 μ' ∧ (μ' 46 7, μ' 46 8, μ' 46 9) = T) : ∀ (h f : Nat) (z : Int) (μ : Mem), h < f → y < z → z ≤ R 0 0 + 1 → R 0 0 + 2 ≤ z + h → Off Cmen μ0 μ → MnI R μ → ∃ μ', pla_findMending_125 K f y z μ = some μ' ∧ Off Cmen μ0 μ' ∧ (μ' 46 7, μ' 46 8, μ' 46 9) = m2b R y T h z := by
  have hb := hO.1
  intro h
  induction h with
  | zero => intro f z μ _ _ h3 h4; omega
  | succ h ih =>
    intro f z μ hf hyz hz hh o H
    obtain ⟨f, rfl⟩ : ∃ g, f = g + 1 := ⟨f - 1, by omega⟩
    have hw := isWorn_eq (y := y) H.1 hO (by omega)
    have e182 : ∀ μ : Mem, pla_findMending_182 K y μ = K (y + 1) μ := fun μ => by rw [pla_findMending_182.eq_1, wI_id (by omega)]
    rw [pla_findMending_125.eq_2]
    by_cases w : wornP R y
    · rw [hw.1 w, Option.bind_some, if_neg (by omega), H.1.1.1, m2b]
      by_cases x : R 0 0 < z
      · rw [if_pos x, if_pos x, e182]
        exact hK μ o H
      · rw [if_neg x, if_neg x, setM_eq, Option.bind_some]
        have H1 : MnI R (stM μ 2 y z) := H.st
        have o1 : Off Cmen μ0 (stM μ 2 y z) := o.tr stM_off
        have hw2 := isWorn_eq (y := z) H1.1 hO (by omega)
        have nx : ∀ μ1 : Mem, Off Cmen μ0 μ1 → MnI R μ1 → ∃ μ', pla_findMending_176 (pla_findMending_125 K f) y z μ1 = some μ' ∧ Off Cmen μ0 μ' ∧ (μ' 46 7, μ' 46 8, μ' 46 9) = m2b R y T h (z + 1) := fun μ1 q1 q2 => by
          rw [pla_findMending_176.eq_1, wI_id (by omega)]
          exact ih f (z + 1) μ1 (by omega) (by omega) (by omega) (by omega) q1 q2
        by_cases w2 : wornP R z
        · obtain ⟨d, μ2, a1, a2, a3, a4, a5⟩ := try_eq (x2 := y) (x3 := z) hO H1 (Or.inr (Or.inr (by omega)))
          rw [lvR_2 _ _ _ (by omega) (by omega)] at a5
          rw [hw2.1 w2, Option.bind_some, if_neg (by omega), a1, Option.bind_some]
          rcases a5 with ⟨q1, q2⟩ | ⟨q1, q2⟩
          · rw [if_neg (by show ¬ d = 0; omega), if_pos q2]
            refine ⟨μ2, rfl, o1.tr a2, ?_⟩
            have v := stM_v μ 2 y z
            rw [a3, v.1, v.2.1, v.2.2]
          · rw [if_pos (by show d = 0; exact q1), if_neg (fun q => q q2)]
            exact nx μ2 (o1.tr a2) a4
        · rw [hw2.2 w2, Option.bind_some, if_pos rfl, if_neg (fun q => q (by rw [lev_comm, lev_unworn_l w2]; exact h1 y (by omega) (by omega)))]
          exact nx _ o1 H1
    · rw [hw.2 w, Option.bind_some, if_pos rfl, e182, m2b_skip (h + 1) z (by omega) (fun b b1 b2 => by rw [lev_unworn_l w]; exact h1 b (by omega) b2)]
      exact hK μ o H
theorem cmen110 {R : Rd} (hO : Okr R) (h1 : ∀ z : Int, 0 ≤ z → z ≤ R 0 0 → doneP (levP R z z) (ofL idL) = -4) (μ0 : Mem) : ∀ (g f : Nat) (y : Int) (μ : Mem), g < f → 0 ≤ y → y ≤ R 0 0 + 1 → y + g = 22 → Off Cmen μ0 μ → MnI R μ → ∃ μ', pla_findMending_110 f y μ = some μ' ∧ Off Cmen μ0 μ' ∧ (μ' 46 7, μ' 46 8, μ' 46 9) = m2 R g y := by
  have hb := hO.1
  intro g
  induction g with
  | zero => intro f y μ _ _ h3 h4; omega
  | succ g ih =>
    intro f y μ hf h0 hy hg o H
    obtain ⟨f, rfl⟩ : ∃ z, f = z + 1 := ⟨f - 1, by omega⟩
    rw [pla_findMending_110.eq_2, H.1.1.1, m2]
    by_cases x : R 0 0 < y
    · rw [if_pos x, if_pos x, setM_eq, Option.bind_some]
      have v := stM_v μ (-4) (-4) (-4)
      exact ⟨_, rfl, o.tr stM_off, by rw [v.1, v.2.1, v.2.2]⟩
    · rw [if_neg x, if_neg x, bnd.eq_1, wI_id (by omega)]
      have hB := BIG_gt
      exact cmen125 hO h1 (pla_findMending_110 f) y ⟨h0, by omega⟩ (m2 R g (y + 1)) μ0 (fun μ1 q1 q2 => ih f (y + 1) μ1 (by omega) (by omega) (by omega) (by omega) q1 q2) 22 BIG (y + 1) μ (by omega) (by omega) (by omega) (by omega) o H
theorem cmen57 {R : Rd} (hO : Okr R) (h0 : doneP R (ofL idL) = -4) (μ0 : Mem) : ∀ (g f : Nat) (y : Int) (μ : Mem), g < f → 0 ≤ y → y ≤ R 0 0 + 1 → y + g = 22 → (∀ z : Int, 0 ≤ z → z < y → doneP (levP R z z) (ofL idL) = -4) → Off Cmen μ0 μ → MnI R μ → ∃ μ', pla_findMending_57 f y μ = some μ' ∧ Off Cmen μ0 μ' ∧ (μ' 46 7, μ' 46 8, μ' 46 9) = m1 R (m2 R 22 0) g y := by
  have hb := hO.1
  have hB := BIG_gt
  intro g
  induction g with
  | zero => intro f y μ _ _ h3 h4; omega
  | succ g ih =>
    intro f y μ hf hy0 hy hg hz o H
    obtain ⟨f, rfl⟩ : ∃ z, f = z + 1 := ⟨f - 1, by omega⟩
    rw [pla_findMending_57.eq_2, H.1.1.1, m1]
    by_cases x : R 0 0 < y
    · rw [if_pos x, if_pos x]
      exact cmen110 hO (fun z z1 z2 => hz z z1 (by omega)) μ0 22 BIG 0 μ (by omega) (by omega) (by omega) (by omega) o H
    · rw [if_neg x, if_neg x, setM_eq, Option.bind_some]
      have H1 : MnI R (stM μ 1 y (-4)) := H.st
      have o1 : Off Cmen μ0 (stM μ 1 y (-4)) := o.tr stM_off
      have hw := isWorn_eq (y := y) H1.1 hO (by omega)
      have nx : doneP (levP R y y) (ofL idL) = -4 → ∀ μ1 : Mem, Off Cmen μ0 μ1 → MnI R μ1 → ∃ μ', pla_findMending_102 (pla_findMending_57 f) y μ1 = some μ' ∧ Off Cmen μ0 μ' ∧ (μ' 46 7, μ' 46 8, μ' 46 9) = m1 R (m2 R 22 0) g (y + 1) := fun hd μ1 q1 q2 => by
        rw [pla_findMending_102.eq_1, wI_id (by omega)]
        refine ih f (y + 1) μ1 (by omega) (by omega) (by omega) (by omega) (fun z z1 z2 => ?_) q1 q2
        by_cases e : z = y
        · rw [e]; exact hd
        · exact hz z z1 (by omega)
      by_cases w : wornP R y
      · obtain ⟨d, μ2, a1, a2, a3, a4, a5⟩ := try_eq (x2 := y) (x3 := -4) hO H1 (Or.inr (Or.inl (by omega)))
        rw [lvR_1 _ _ (by omega)] at a5
        rw [hw.1 w, Option.bind_some, if_neg (by omega), a1, Option.bind_some]
        rcases a5 with ⟨q1, q2⟩ | ⟨q1, q2⟩
        · rw [if_neg (by show ¬ d = 0; omega), if_pos q2]
          refine ⟨μ2, rfl, o1.tr a2, ?_⟩
          have v := stM_v μ 1 y (-4)
          rw [a3, v.1, v.2.1, v.2.2]
        · rw [if_pos (by show d = 0; exact q1), if_neg (fun q => q q2)]
          exact nx q2 μ2 (o1.tr a2) a4
      · have hd : doneP (levP R y y) (ofL idL) = -4 := by rw [lev_unworn w]; exact h0
        rw [hw.2 w, Option.bind_some, if_pos rfl, if_neg (fun q => q hd)]
        exact nx hd _ o1 H1
theorem cmenSearch {R : Rd} {μ : Mem} (hO : Okr R) (hR : RC μ 1 R) (hz : μ 46 5 = 0) : ∃ μ', pla_findMending μ = some μ' ∧ Off Cmen (mset μ 46 5 1) μ' ∧ mendP R = (μ' 46 7, μ' 46 8, μ' 46 9) := by
  have hb := hO.1
  have hB := BIG_gt
  obtain ⟨μ1, a1, a2, a3, a4⟩ := ordbegin_eq (o := 47) (n := R 0 1) (by omega) (mset μ 46 5 1)
  have o1 : Off Cmen (mset μ 46 5 1) μ1 := fun a j n => a2 a j (fun q => n (by unfold Cmen; omega)) (fun q => n (by unfold Cmen; omega))
  have hR' : RC (mset μ 46 5 1) 1 R := hR.mod (by omega)
  have H1 : MnI R μ1 := ⟨hR'.off (fun a h1 h2 => o1.cell (fun j => by unfold Cmen; omega)), fun i i1 i2 => by rw [ofL_id i ⟨i1, i2⟩]; exact a4 i i1 i2, a3⟩
  have o2 : Off Cmen (mset μ 46 5 1) (stM μ1 0 (-4) (-4)) := o1.tr stM_off
  obtain ⟨d, μ2, b1, b2, b3, b4, b5⟩ := try_eq (x2 := -4) (x3 := -4) hO (H1.st (a := 0) (b := -4) (c := -4)) (Or.inl (by omega))
  have hlv : lvR R (-4) (-4) = R := by unfold lvR; rw [if_pos (by omega)]
  rw [hlv] at b5
  rw [pla_findMending.eq_1, if_pos hz, bnd.eq_1]
  have e10 : mset μ 46 5 1 1 10 = R 0 1 := by rw [mset_off (by omega)]; exact hR.1.2.1
  rw [e10, a1, Option.bind_some, setM_eq, Option.bind_some, b1, Option.bind_some]
  rcases b5 with ⟨q1, q2⟩ | ⟨q1, q2⟩
  · rw [if_neg (by show ¬ d = 0; omega)]
    refine ⟨μ2, rfl, o2.tr b2, ?_⟩
    have v := stM_v μ1 0 (-4) (-4)
    rw [b3, v.1, v.2.1, v.2.2]
    unfold mendP; rw [if_pos q2]
  · rw [if_pos (by show d = 0; exact q1)]
    obtain ⟨μ3, c1, c2, c3⟩ := cmen57 hO q2 (mset μ 46 5 1) 22 BIG 0 μ2 (by omega) (by omega) (by omega) (by omega) (fun z z1 z2 => by omega) (o2.tr b2) b4
    refine ⟨μ3, c1, c2, ?_⟩
    rw [c3]
    unfold mendP; rw [if_neg (fun q => q q2)]
theorem cfindMending {μ : Mem} (H : Inv μ) : ∃ R μ', pla_findMending μ = some μ' ∧ Okr R ∧ MCr μ' R ∧ MendC R μ' ∧ (∀ a, 61 ≤ a → μ' a = μ a) ∧ Inv μ' := by
  obtain ⟨hR, hM, hO, hT⟩ := H.R
  by_cases z : μ 46 5 = 0
  · obtain ⟨R, hRe⟩ : ∃ R, R = mR μ 0 := ⟨_, rfl⟩
    have hMr : MCr μ R := by rw [hRe]; exact MCr_mR μ
    rw [← hRe] at hR hM hO hT
    obtain ⟨μ2, b1, b2, b3⟩ := cmenSearch hO.r hR z
    have q : ∀ a j, ¬ ((35 ≤ a ∧ a ≤ 45) ∨ (a = 46 ∧ (j = 5 ∨ j = 7 ∨ j = 8 ∨ j = 9)) ∨ (47 ≤ a ∧ a ≤ 48)) → μ2 a j = μ a j := fun a j n => by
      rw [b2 a j (fun z => n (by unfold Cmen at z; omega)), mset_ne (by omega)]
    have h46 : μ2 46 5 = 1 := by rw [b2 46 5 (by unfold Cmen; omega), mset_same]
    have hMr2 : MCr μ2 R := hMr.off (q _ _ (by omega)) (fun j _ => q _ _ (by omega)) (funext fun j => q _ _ (by omega)) (funext fun j => q _ _ (by omega)) (funext fun j => q _ _ (by omega))
    refine ⟨R, μ2, b1, hO.r, hMr2, b3, fun a ha => funext fun j => q a j (by omega), ?_⟩
    obtain ⟨c1, c2, c3, c4, c5, c6, c7⟩ := H
    have hm : SmM μ μ2 := ⟨q _ _ (by omega), funext fun j => q _ _ (by omega), funext fun j => q _ _ (by omega), funext fun j => q _ _ (by omega), funext fun j => q _ _ (by omega), funext fun j => q _ _ (by omega)⟩
    refine ⟨c1.same hm (fun a _ _ => funext fun j => q _ _ (by omega)), c2.same hm (funext fun j => q _ _ (by omega)) (q _ _ (by omega)) (fun a _ _ => funext fun j => q _ _ (by omega)), c3.same (q _ _ (by omega)) (q _ _ (by omega)) (funext fun j => q _ _ (by omega)) (funext fun j => q _ _ (by omega)), c4.same (funext fun j => q _ _ (by omega)) (funext fun j => q _ _ (by omega)) (funext fun j => q _ _ (by omega)) (funext fun j => q _ _ (by omega)) (funext fun j => q _ _ (by omega)) (funext fun j => q _ _ (by omega)), c5.same (q _ _ (by omega)) (q _ _ (by omega)), c6.same (q _ _ (by omega)) (q _ _ (by omega)), ?_, Or.inr ⟨h46, R, hMr2, hO.r, b3⟩⟩
    rw [q 46 4 (by omega)]
    refine c7.1.imp id (fun y => ⟨y.1, y.2.elim fun R' y' => ⟨R', y'.1.off (q _ _ (by omega)) (fun j _ => q _ _ (by omega)) (funext fun j => q _ _ (by omega)) (funext fun j => q _ _ (by omega)) (funext fun j => q _ _ (by omega)), y'.2.1, ?_⟩⟩)
    unfold OrdC
    rw [q 46 6 (by omega), show μ2 50 = μ 50 from funext fun j => q _ _ (by omega)]
    exact y'.2.2
  · obtain ⟨R, r1, r2, r3⟩ := (H.2.2.2.2.2.2.2.resolve_left z).2
    refine ⟨R, μ, ?_, r2, r1, r3, fun a _ => rfl, H⟩
    rw [pla_findMending.eq_1, if_neg z]
