/-! ===== mend, the reference's side ===== -/
theorem MCr.fil {μ : Mem} {R : Rd} {a b : Int} (ha : 0 ≤ a ∧ a ≤ 20) (hb : 0 ≤ b ∧ b ≤ 20) (H : MCr μ R) : MCr (filM (filM μ a) b) (levP R a b) := by
  have q : ∀ x j, ¬ (x = 62 ∧ (((36 + 3 * a.toNat ≤ j ∧ j < 36 + 3 * a.toNat + 3)) ∨ (36 + 3 * b.toNat ≤ j ∧ j < 36 + 3 * b.toNat + 3))) → filM (filM μ a) b x j = μ x j := fun x j n => by
    unfold filM
    rw [mset_ne (by omega), mset_ne (by omega), mset_ne (by omega), mset_ne (by omega), mset_ne (by omega), mset_ne (by omega)]
  have q0 : ∀ j, (((36 + 3 * a.toNat ≤ j ∧ j < 36 + 3 * a.toNat + 3)) ∨ (36 + 3 * b.toNat ≤ j ∧ j < 36 + 3 * b.toNat + 3)) → filM (filM μ a) b 62 j = 0 := fun j h => by
    unfold filM
    simp only [mset_ap, true_and]
    by_cases z1 : j = 0 + 36 + (3 * b + (0 + 1 + 1)).toNat
    · rw [if_pos z1]
    · rw [if_neg z1]
      by_cases z2 : j = 0 + 36 + (3 * b + (0 + 1)).toNat
      · rw [if_pos z2]
      · rw [if_neg z2]
        by_cases z3 : j = 0 + 36 + (3 * b + 0).toNat
        · rw [if_pos z3]
        · rw [if_neg z3]
          by_cases z4 : j = 0 + 36 + (3 * a + (0 + 1 + 1)).toNat
          · rw [if_pos z4]
          · rw [if_neg z4]
            by_cases z5 : j = 0 + 36 + (3 * a + (0 + 1)).toNat
            · rw [if_pos z5]
            · rw [if_neg z5, if_pos (by omega)]
  obtain ⟨⟨a1, a2⟩, h1, h3, h4, h5, h6, h8⟩ := H
  refine ⟨⟨?_, ?_⟩, fun i i1 i2 => ?_, fun i i1 i2 => ?_, fun i i1 i2 => ?_, fun i i1 i2 => ?_, fun i i1 i2 => ?_, fun i i1 i2 => ?_⟩
  · rw [q _ _ (by omega), levP_n _ _ _ _ _ (by omega)]; exact a1
  · rw [q _ _ (by omega), levP_n _ _ _ _ _ (by omega)]; exact a2
  · rw [q _ _ (by omega), levP_n _ _ _ _ _ (by omega)]; exact h1 i i1 i2
  · rw [q _ _ (by omega), levP_n _ _ _ _ _ (by omega)]; exact h3 i i1 i2
  · rw [q _ _ (by omega), levP_n _ _ _ _ _ (by omega)]; exact h4 i i1 i2
  · unfold levP
    by_cases z : 3 * a ≤ i ∧ i < 3 * a + 3 ∨ 3 * b ≤ i ∧ i < 3 * b + 3
    · rw [if_pos ⟨rfl, z⟩, q0 _ (by omega)]
    · rw [if_neg (fun y => z y.2), q _ _ (by omega)]; exact h5 i i1 i2
  · rw [q _ _ (by omega), levP_n _ _ _ _ _ (by omega)]; exact h6 i i1 i2
  · rw [q _ _ (by omega), levP_n _ _ _ _ _ (by omega)]; exact h8 i i1 i2
theorem filM_off {μ : Mem} {a : Int} {x j : Nat} (ha : 0 ≤ a ∧ a ≤ 20) (h : ¬ (x = 62 ∧ 36 ≤ j ∧ j < 99)) : filM μ a x j = μ x j := by
  unfold filM
  rw [mset_ne (by omega), mset_ne (by omega), mset_ne (by omega)]
theorem areDone_eq {ν : Mem} {R : Rd} {p : Int → Int} (hM : MCr ν R) (hO : Okr R) (hp : inP R p) (hP : OrdM ν 80 (R 0 1) p) : ∃ u ν', mod_areDone ν = some (u, ν') ∧ Off Rrun ν ν' ∧ (u = 0 ∧ doneP R p = -4 ∨ u = 1 ∧ doneP R p ≠ -4) := by
  obtain ⟨ν', a1, a2, a3, a4⟩ := runs_eq (h := 60) hM hO hp hP (by omega)
  have e60 : ((60 : Nat) : Int) = 60 := rfl
  rw [e60] at a1
  rw [mod_areDone.eq_1, a1, Option.bind_some, msum_eq (hM.keep a2) hO hp a3, Option.bind_some]
  by_cases d : doneP R p = -4
  · rw [if_pos d]; exact ⟨0, ν', rfl, a2, Or.inl ⟨rfl, d⟩⟩
  · rw [if_neg d]; exact ⟨1, ν', rfl, a2, Or.inr ⟨rfl, d⟩⟩
theorem adb49 (x : Int) : ∀ (f k : Nat) (μ : Mem), k ≤ 63 → 63 - k < f → ∃ μ', mod_areDoneBy_49 f x (k : Int) μ = some (zN x, μ') ∧ (∀ a j, ¬ (a = 62 ∧ 36 + k ≤ j ∧ j < 99) → μ' a j = μ a j) ∧ ∀ j : Nat, k ≤ j → j < 63 → μ' 62 (36 + j) = μ 82 j := by
  intro f
  induction f with
  | zero => intro k μ h1 h2; omega
  | succ f ih =>
    intro k μ h1 h2
    rw [mod_areDoneBy_49.eq_2]
    by_cases z : (63 : Int) ≤ k
    · rw [if_pos z]
      exact ⟨μ, rfl, fun a j _ => rfl, fun j j1 j2 => by omega⟩
    · obtain ⟨μ', g1, g2, g3⟩ := ih (k + 1) (mset μ 62 (36 + k) (μ 82 k)) (by omega) (by omega)
      refine ⟨μ', ?_, fun a j n => by rw [g2 a j (by omega), mset_ne (by omega)], fun j j1 j2 => ?_⟩
      · rw [if_neg z, ld_ok (by omega), Option.bind_some, wI_id (x := 36 + (k : Int)) (by omega), stx_ok (by omega), Option.bind_some, wI_id (by omega), Int.toNat_natCast, show (36 + (k : Int)).toNat = 36 + k by omega, show (k : Int) + 1 = ((k + 1 : Nat) : Int) by omega, g1]
      · by_cases y : j = k
        · rw [y, g2 _ _ (by omega), mset_same]
        · rw [g3 j (by omega) j2, mset_off (by omega)]
theorem adb2 (a b : Int) : ∀ (f k : Nat) (μ : Mem), k ≤ 63 → 63 - k < f → ∃ μ', mod_areDoneBy_2 f a b (k : Int) μ = ((mod_fills a μ').bind fun u1 => (mod_fills b u1.2).bind fun u2 => (mod_areDone u2.2).bind fun u3 => mod_areDoneBy_49 BIG u3.1 0 u3.2) ∧ (∀ x j, x ≠ 82 → μ' x j = μ x j) ∧ (∀ j, j < k → μ' 82 j = μ 82 j) ∧ ∀ j : Nat, k ≤ j → j < 63 → μ' 82 j = μ 62 (36 + j) := by
  intro f
  induction f with
  | zero => intro k μ h1 h2; omega
  | succ f ih =>
    intro k μ h1 h2
    rw [mod_areDoneBy_2.eq_2]
    by_cases z : (63 : Int) ≤ k
    · rw [if_pos z]
      exact ⟨μ, rfl, fun x j _ => rfl, fun j _ => rfl, fun j j1 j2 => by omega⟩
    · obtain ⟨μ', g1, g2, g3, g4⟩ := ih (k + 1) (mset μ 82 k (μ 62 (36 + k))) (by omega) (by omega)
      refine ⟨μ', ?_, fun x j hx => by rw [g2 x j hx, mset_off hx], fun j hj => by rw [g3 j (by omega), mset_ne (by omega)], fun j j1 j2 => ?_⟩
      · rw [if_neg z, wI_id (x := 36 + (k : Int)) (by omega), ld_ok (by omega), Option.bind_some, stx_ok (by omega), Option.bind_some, wI_id (by omega), Int.toNat_natCast, show (36 + (k : Int)).toNat = 36 + k by omega, show (k : Int) + 1 = ((k + 1 : Nat) : Int) by omega, g1]
      · by_cases y : j = k
        · rw [y, g3 k (by omega), mset_same]
        · rw [g4 j (by omega) j2, mset_off (by omega)]
def Mmen (a j : Nat) : Prop := (75 ≤ a ∧ a ≤ 79) ∨ a = 82 ∨ (a = 61 ∧ j = 31)
theorem doneBy_eq {ν : Mem} {R : Rd} {p : Int → Int} {a b : Int} (ha : 0 ≤ a ∧ a ≤ 20) (hb : 0 ≤ b ∧ b ≤ 20) (hM : MCr ν R) (hO : Okr R) (hp : inP R p) (hP : OrdM ν 80 (R 0 1) p) : ∃ u ν', mod_areDoneBy a b ν = some (u, ν') ∧ Off Mmen ν ν' ∧ (u = 0 ∧ doneP (levP R a b) p = -4 ∨ u = 1 ∧ doneP (levP R a b) p ≠ -4) := by
  have hB := BIG_gt
  have e0 : ((0 : Nat) : Int) = 0 := rfl
  obtain ⟨ν1, a1, a2, a3, a4⟩ := adb2 a b BIG 0 ν (by omega) (by omega)
  rw [e0] at a1
  have hM1 : MCr ν1 R := hM.off (a2 _ _ (by omega)) (fun j _ => a2 _ _ (by omega)) (funext fun j => a2 _ _ (by omega)) (funext fun j => a2 _ _ (by omega)) (funext fun j => a2 _ _ (by omega))
  have hL : levP R a b 0 1 = R 0 1 := levP_n _ _ _ _ _ (by omega)
  obtain ⟨u, ν2, b1, b2, b3⟩ := areDone_eq (p := p) (hM1.fil ha hb) hO.lev (fun i i1 i2 => by rw [hL] at i2 ⊢; exact hp i i1 i2) (fun i i1 i2 => by
    rw [hL] at i2
    rw [filM_off hb (by omega), filM_off ha (by omega), a2 _ _ (by omega)]; exact hP i i1 i2)
  obtain ⟨ν3, c1, c2, c3⟩ := adb49 u BIG 0 ν2 (by omega) (by omega)
  rw [e0] at c1
  have hu : zN u = u := by
    rcases b3 with q | q
    · rw [q.1]; exact zN_0
    · rw [q.1]; exact zN_1
  rw [hu] at c1
  refine ⟨u, ν3, ?_, fun x j n => ?_, b3⟩
  · rw [mod_areDoneBy.eq_1, a1, fills_eq ha, Option.bind_some, fills_eq hb, Option.bind_some]
    dsimp only
    rw [b1, Option.bind_some]
    dsimp only
    rw [c1]
  · by_cases z : x = 62 ∧ 36 ≤ j ∧ j < 99
    · have h := c3 (j - 36) (by omega) (by omega)
      rw [show 36 + (j - 36) = j by omega] at h
      rw [z.1, h, b2 _ _ (by unfold Rrun; omega), filM_off hb (by omega), filM_off ha (by omega), a4 (j - 36) (by omega) (by omega), show 36 + (j - 36) = j by omega]
    · rw [c2 x j (by omega), b2 x j (fun q => n (by unfold Rrun at q; unfold Mmen; omega)), filM_off hb z, filM_off ha z, a2 x j (fun q => n (by unfold Mmen; omega))]
def ansM (t : Int × Int × Int) (x : Int) : Int := if x = 0 then t.1 else if t.1 = -4 then -4 else if x ≤ t.1 then (if x = 1 then t.2.1 else t.2.2) else -4
/-- what the reference's loops hold -/
def MdI (R : Rd) (ν : Mem) : Prop := MCr ν R ∧ OrdM ν 80 (R 0 1) (ofL idL)
theorem MdI.off {R : Rd} {ν ν' : Mem} (h : Off Mmen ν ν') (H : MdI R ν) : MdI R ν' := ⟨H.1.off (h _ _ (by unfold Mmen; omega)) (fun j _ => h _ _ (by unfold Mmen; omega)) (h.cell (by unfold Mmen; omega)) (h.cell (by unfold Mmen; omega)) (h.cell (by unfold Mmen; omega)), fun i i1 i2 => by rw [h _ _ (by unfold Mmen; omega)]; exact H.2 i i1 i2⟩
theorem mmen95 {R : Rd} (hO : Okr R) (x : Int) (hx : 0 ≤ x ∧ x ≤ 2) (K : Int → Int → Mem → Option (Int × Mem)) (y : Int) (hy : 0 ≤ y ∧ y ≤ R 0 0) (T : Int × Int × Int) (ν0 : Mem) (hK : ∀ ν : Mem, Off Mmen ν0 ν → MdI R ν → ∃ ν', K x (y + 1) ν = some (ansM T x, ν') ∧ Off Mmen ν0 ν') : ∀ (h f : Nat) (z : Int) (ν : Mem), h < f → y < z → z ≤ R 0 0 + 1 → R 0 0 + 2 ≤ z + h → Off Mmen ν0 ν → MdI R ν → ∃ ν', mod_mend_95 K f x y z ν = some (ansM (m2b R y T h z) x, ν') ∧ Off Mmen ν0 ν' := by
  have hb := hO.1
  intro h
  induction h with
  | zero => intro f z ν _ _ h3 h4; omega
  | succ h ih =>
    intro f z ν hf hyz hz hh o H
    obtain ⟨f, rfl⟩ : ∃ g, f = g + 1 := ⟨f - 1, by omega⟩
    rw [mod_mend_95.eq_2, H.1.1.1, m2b]
    by_cases w : R 0 0 < z
    · rw [if_pos w, if_pos w, wI_id (by omega)]
      exact hK ν o H
    · obtain ⟨u, ν1, a1, a2, a3⟩ := doneBy_eq (a := y) (b := z) (by omega) (by omega) H.1 hO (idIn R (by omega)) H.2
      rw [if_neg w, if_neg w, a1, Option.bind_some]
      dsimp only
      rcases a3 with ⟨u1, d⟩ | ⟨u1, d⟩
      · rw [if_pos u1, if_neg (show ¬ doneP (levP R y z) (ofL idL) ≠ -4 from fun q => q d), wI_id (by omega)]
        exact ih f (z + 1) ν1 (by omega) (by omega) (by omega) (by omega) (o.tr a2) (H.off a2)
      · rw [if_neg (show ¬ u = 0 by omega), if_pos d]
        refine ⟨ν1, ?_, o.tr a2⟩
        unfold ansM
        dsimp only
        have hc : x = 0 ∨ x = 1 ∨ x = 2 := by omega
        rcases hc with hc | hc | hc <;> subst hc <;> rfl
theorem mmen83 {R : Rd} (hO : Okr R) (x : Int) (hx : 0 ≤ x ∧ x ≤ 2) (ν0 : Mem) : ∀ (g f : Nat) (y : Int) (ν : Mem), g < f → 0 ≤ y → y ≤ R 0 0 + 1 → y + g = 22 → Off Mmen ν0 ν → MdI R ν → ∃ ν', mod_mend_83 f x y ν = some (ansM (m2 R g y) x, ν') ∧ Off Mmen ν0 ν' := by
  have hb := hO.1
  have hB := BIG_gt
  intro g
  induction g with
  | zero => intro f y ν _ _ h3 h4; omega
  | succ g ih =>
    intro f y ν hf h0 hy hg o H
    obtain ⟨f, rfl⟩ : ∃ z, f = z + 1 := ⟨f - 1, by omega⟩
    rw [mod_mend_83.eq_2, H.1.1.1, m2]
    by_cases w : R 0 0 < y
    · rw [if_pos w, if_pos w]
      refine ⟨ν, ?_, o⟩
      unfold ansM
      dsimp only
      congr 2
      split
      · rfl
      · rw [if_pos rfl]
    · rw [if_neg w, if_neg w, bnd.eq_1, wI_id (by omega)]
      exact mmen95 hO x hx (mod_mend_83 f) y ⟨h0, by omega⟩ (m2 R g (y + 1)) ν0 (fun ν1 q1 q2 => ih f (y + 1) ν1 (by omega) (by omega) (by omega) (by omega) q1 q2) 22 BIG (y + 1) ν (by omega) (by omega) (by omega) (by omega) o H
theorem mmen38 {R : Rd} (hO : Okr R) (x : Int) (hx : 0 ≤ x ∧ x ≤ 2) (ν0 : Mem) : ∀ (g f : Nat) (y : Int) (ν : Mem), g < f → 0 ≤ y → y ≤ R 0 0 + 1 → y + g = 22 → Off Mmen ν0 ν → MdI R ν → ∃ ν', mod_mend_38 f x y ν = some (ansM (m1 R (m2 R 22 0) g y) x, ν') ∧ Off Mmen ν0 ν' := by
  have hb := hO.1
  have hB := BIG_gt
  intro g
  induction g with
  | zero => intro f y ν _ _ h3 h4; omega
  | succ g ih =>
    intro f y ν hf h0 hy hg o H
    obtain ⟨f, rfl⟩ : ∃ z, f = z + 1 := ⟨f - 1, by omega⟩
    rw [mod_mend_38.eq_2, H.1.1.1, m1]
    by_cases w : R 0 0 < y
    · rw [if_pos w, if_pos w]
      exact mmen83 hO x hx ν0 22 BIG 0 ν (by omega) (by omega) (by omega) (by omega) o H
    · obtain ⟨u, ν1, a1, a2, a3⟩ := doneBy_eq (a := y) (b := y) (by omega) (by omega) H.1 hO (idIn R (by omega)) H.2
      rw [if_neg w, if_neg w, a1, Option.bind_some]
      dsimp only
      rcases a3 with ⟨u1, d⟩ | ⟨u1, d⟩
      · rw [if_pos u1, if_neg (show ¬ doneP (levP R y y) (ofL idL) ≠ -4 from fun q => q d), wI_id (by omega)]
        exact ih f (y + 1) ν1 (by omega) (by omega) (by omega) (by omega) (o.tr a2) (H.off a2)
      · rw [if_neg (show ¬ u = 0 by omega), if_pos d]
        refine ⟨ν1, ?_, o.tr a2⟩
        unfold ansM
        dsimp only
        have hc : x = 0 ∨ x = 1 ∨ x = 2 := by omega
        rcases hc with hc | hc | hc <;> subst hc <;> rfl
theorem E_mend_ok : E_mend Inv := by
  intro μ H x hx
  have hB := BIG_gt
  by_cases k : 0 ≤ x ∧ x ≤ 2
  · obtain ⟨R, μ1, a1, a2, a3, a4, a5, a6⟩ := cfindMending H
    have hb := a2.1
    obtain ⟨μ2, b1, b2, b3⟩ := byN_eq μ1
    have hM2 : MdI R μ2 := ⟨a3.off (b2 _ _ (by omega)) (fun j _ => b2 _ _ (by omega)) (funext fun j => b2 _ _ (by omega)) (funext fun j => b2 _ _ (by omega)) (funext fun j => b2 _ _ (by omega)), fun i i1 i2 => by rw [ofL_id i ⟨i1, by omega⟩]; exact b3 i i1 (by omega)⟩
    have o2 : Off Scr μ1 μ2 := fun a j n => b2 a j (fun q => n (by unfold Scr; omega))
    obtain ⟨u, μ3, d1, d2, d3⟩ := areDone_eq hM2.1 a2 (idIn R (by omega)) hM2.2
    have d2' : Off Mmen μ2 μ3 := d2.mono (fun a j z => by unfold Rrun at z; unfold Mmen; omega)
    have up : ∀ a j, Mmen a j → Scr a j := fun a j z => by unfold Mmen at z; unfold Scr; omega
    have eC : ww_mend x μ = some (ansM (mendP R) x, μ1) := by
      rw [ww_mend.eq_1, if_neg (by omega), if_pos k.2, a1, Option.bind_some, ww_mend_34.eq_1]
      unfold MendC at a4
      rw [a4]
      unfold ansM
      dsimp only
      by_cases z0 : x = 0
      · rw [if_pos z0, if_pos z0]
      · rw [if_neg z0, if_neg z0]
        by_cases z1 : μ1 46 7 = -4
        · rw [if_pos z1, if_pos z1, z1]
        · rw [if_neg z1, if_neg z1]
          by_cases z2 : x ≤ μ1 46 7
          · rw [if_pos z2, if_pos z2]
            by_cases z3 : x = 1
            · rw [if_pos z3, if_pos z3]
            · rw [if_neg z3, if_neg z3]
          · rw [if_neg z2, if_neg z2]
    rcases d3 with ⟨u1, d⟩ | ⟨u1, d⟩
    · obtain ⟨μ4, e1, e2⟩ := mmen38 a2 x k μ3 22 BIG 0 μ3 (by omega) (by omega) (by omega) (by omega) Off.rf (hM2.off d2')
      refine ⟨ansM (mendP R) x, μ1, μ4, eC, ?_, a6.scr ((o2.tr (d2'.mono up)).tr (e2.mono up))⟩
      rw [mod_mend.eq_1, in_eq, tT k, b1, Option.bind_some, d1, Option.bind_some]
      dsimp only
      rw [if_pos u1]
      unfold mendP
      rw [if_neg (fun q => q d)]
      exact e1
    · refine ⟨ansM (mendP R) x, μ1, μ3, eC, ?_, a6.scr (o2.tr (d2'.mono up))⟩
      rw [mod_mend.eq_1, in_eq, tT k, b1, Option.bind_some, d1, Option.bind_some]
      dsimp only
      rw [if_neg (show ¬ u = 0 by omega)]
      unfold mendP ansM
      rw [if_pos d]
      dsimp only
      by_cases z0 : x = 0
      · rw [if_pos z0, if_pos z0]
      · rw [if_neg z0, if_neg z0, if_neg (by omega), if_neg (by omega)]
  · refine ⟨-1, μ, μ, ?_, ?_, H⟩
    · rw [ww_mend.eq_1]
      by_cases z : x < 0
      · rw [if_pos z]
      · rw [if_neg z, if_neg (by omega)]
    · rw [mod_mend.eq_1, in_eq, tF k]
