/-! ===== what is asked of a run ===== -/
theorem run_both {μ : Mem} (H : Inv μ) {h : Nat} (hh : h ≤ 60) : ∃ μ1 ν1 ν', ww_runUpTo (h : Int) μ = some μ1 ∧ CM μ1 (mR μ 0) (runP (mR μ 0) idP h) ∧ Off Crun2 μ μ1 ∧ mod_byNumbers μ1 = some ν1 ∧ mod_runs (h : Int) ν1 = some ν' ∧ RM0 ν' (mR μ 0) (runP (mR μ 0) idP h) ∧ (1 ≤ h → ν' 61 31 = runP (mR μ 0) idP h 5 0) ∧ Off Rrun2 μ1 ν' ∧ Inv ν' := by
  obtain ⟨hR, hM, hO, hT⟩ := H.R
  obtain ⟨μ1, a1, a2, a3⟩ := cRun_eq hR hO.r hh
  have hM1 : MCr μ1 (mR μ 0) := (MCr_mR μ).off (a2 _ _ (by unfold Crun2; omega)) (fun j _ => a2 _ _ (by unfold Crun2; omega)) (a2.cell (by unfold Crun2; omega)) (a2.cell (by unfold Crun2; omega)) (a2.cell (by unfold Crun2; omega))
  obtain ⟨ν1, ν', b1, b2, b3, b4, b5⟩ := mRun_eq (h := h) hM1 hO.r hh
  refine ⟨μ1, ν1, ν', a1, a3, a2, b1, b2, b4, b5, b3, H.scr ?_⟩
  exact (a2.mono (fun a j z => by unfold Crun2 at z; unfold Scr; omega)).tr (b3.mono (fun a j z => by unfold Rrun2 at z; unfold Scr; omega))
theorem E_where_ok : E_where Inv := by
  intro μ H c h g1 g2
  obtain ⟨c1, c2, c3, c4, c5, c6⟩ := H.c
  by_cases k1 : 0 ≤ c ∧ c < μ 62 0
  · by_cases k2 : 0 ≤ h ∧ h ≤ 60
    · obtain ⟨h, rfl⟩ : ∃ n : Nat, h = (n : Int) := ⟨h.toNat, by omega⟩
      obtain ⟨μ1, ν1, ν', a1, a2, a3, b1, b2, b3, b4, b5, b6⟩ := run_both H (h := h) (by omega)
      refine ⟨runP (mR μ 0) idP h 0 c, μ1, ν', ?_, ?_, b6⟩
      · unfold ww_where
        rw [hasCart_eq, c2, tT k1, isBehind_eq, tT k2, a1, Option.bind_some, at_in (by omega), Option.bind_some, (a2.1.1 c k1.1 k1.2).1]
      · have e62 : μ1 62 = μ 62 := a3.cell (fun j => by unfold Crun2; omega)
        unfold mod_where
        rw [mIsCart_eq (by rw [e62]; exact c5), e62, tT k1, mIsTime_eq, tT k2, b1, Option.bind_some, b2, Option.bind_some, ld_ok (by omega), Option.bind_some, (b3.1 c k1.1 k1.2).1]
    · refine ⟨-1, μ, μ, ?_, ?_, H⟩
      · unfold ww_where; rw [hasCart_eq, c2, tT k1, isBehind_eq, tF k2]
      · unfold mod_where; rw [mIsCart_eq c5, tT k1, mIsTime_eq, tF k2]
  · refine ⟨-1, μ, μ, ?_, ?_, H⟩
    · unfold ww_where; rw [hasCart_eq, c2, tF k1]
    · unfold mod_where; rw [mIsCart_eq c5, tF k1]
theorem E_paid_ok : E_paid Inv := by
  intro μ H c h g1 g2
  obtain ⟨c1, c2, c3, c4, c5, c6⟩ := H.c
  by_cases k1 : 0 ≤ c ∧ c < μ 62 0
  · by_cases k2 : 0 ≤ h ∧ h ≤ 60
    · obtain ⟨h, rfl⟩ : ∃ n : Nat, h = (n : Int) := ⟨h.toNat, by omega⟩
      obtain ⟨μ1, ν1, ν', a1, a2, a3, b1, b2, b3, b4, b5, b6⟩ := run_both H (h := h) (by omega)
      refine ⟨runP (mR μ 0) idP h 1 c, μ1, ν', ?_, ?_, b6⟩
      · unfold ww_paid
        rw [hasCart_eq, c2, tT k1, isBehind_eq, tT k2, a1, Option.bind_some, at_in (by omega), Option.bind_some, (a2.1.1 c k1.1 k1.2).2.1]
      · have e62 : μ1 62 = μ 62 := a3.cell (fun j => by unfold Crun2; omega)
        unfold mod_paid
        rw [mIsCart_eq (by rw [e62]; exact c5), e62, tT k1, mIsTime_eq, tT k2, b1, Option.bind_some, b2, Option.bind_some, ld_ok (by omega), Option.bind_some, (b3.1 c k1.1 k1.2).2.1]
    · refine ⟨-1, μ, μ, ?_, ?_, H⟩
      · unfold ww_paid; rw [hasCart_eq, c2, tT k1, isBehind_eq, tF k2]
      · unfold mod_paid; rw [mIsCart_eq c5, tT k1, mIsTime_eq, tF k2]
  · refine ⟨-1, μ, μ, ?_, ?_, H⟩
    · unfold ww_paid; rw [hasCart_eq, c2, tF k1]
    · unfold mod_paid; rw [mIsCart_eq c5, tF k1]
theorem E_waited_ok : E_waited Inv := by
  intro μ H c h g1 g2
  obtain ⟨c1, c2, c3, c4, c5, c6⟩ := H.c
  by_cases k1 : 0 ≤ c ∧ c < μ 62 0
  · by_cases k2 : 0 ≤ h ∧ h ≤ 60
    · obtain ⟨h, rfl⟩ : ∃ n : Nat, h = (n : Int) := ⟨h.toNat, by omega⟩
      obtain ⟨μ1, ν1, ν', a1, a2, a3, b1, b2, b3, b4, b5, b6⟩ := run_both H (h := h) (by omega)
      refine ⟨runP (mR μ 0) idP h 2 c, μ1, ν', ?_, ?_, b6⟩
      · unfold ww_waited
        rw [hasCart_eq, c2, tT k1, isBehind_eq, tT k2, a1, Option.bind_some, at_in (by omega), Option.bind_some, (a2.1.1 c k1.1 k1.2).2.2.1]
      · have e62 : μ1 62 = μ 62 := a3.cell (fun j => by unfold Crun2; omega)
        unfold mod_waited
        rw [mIsCart_eq (by rw [e62]; exact c5), e62, tT k1, mIsTime_eq, tT k2, b1, Option.bind_some, b2, Option.bind_some, ld_ok (by omega), Option.bind_some, (b3.1 c k1.1 k1.2).2.2.1]
    · refine ⟨-1, μ, μ, ?_, ?_, H⟩
      · unfold ww_waited; rw [hasCart_eq, c2, tT k1, isBehind_eq, tF k2]
      · unfold mod_waited; rw [mIsCart_eq c5, tT k1, mIsTime_eq, tF k2]
  · refine ⟨-1, μ, μ, ?_, ?_, H⟩
    · unfold ww_waited; rw [hasCart_eq, c2, tF k1]
    · unfold mod_waited; rw [mIsCart_eq c5, tF k1]
theorem E_done_ok : E_done Inv := by
  intro μ H c g1
  obtain ⟨c1, c2, c3, c4, c5, c6⟩ := H.c
  obtain ⟨hR, hM, hO, hT⟩ := H.R
  by_cases k1 : 0 ≤ c ∧ c < μ 62 0
  · obtain ⟨μ1, ν1, ν', a1, a2, a3, b1, b2, b3, b4, b5, b6⟩ := run_both H (h := 60) (by omega)
    have hV := RV.run (p := idP) hO.r (fun i i1 i2 => ⟨i1, i2⟩) 60 (by omega)
    have e60 : ((60 : Nat) : Int) = 60 := rfl
    rw [e60] at a1 b2
    refine ⟨runP (mR μ 0) idP 60 3 c, μ1, ν', ?_, ?_, b6⟩
    · unfold ww_done
      rw [hasCart_eq, c2, tT k1, a1, Option.bind_some, isDone_eq hO.r a2.1 hV k1, Option.bind_some, at_in (by omega), Option.bind_some, (a2.1.1 c k1.1 k1.2).2.2.2]
      unfold dn0
      by_cases z : runP (mR μ 0) idP 60 3 c = -4
      · rw [if_pos z, if_pos rfl, z]
      · rw [if_neg z, if_neg (by omega), if_neg z]
    · have e62 : μ1 62 = μ 62 := a3.cell (fun j => by unfold Crun2; omega)
      unfold mod_done
      rw [mIsCart_eq (by rw [e62]; exact c5), e62, tT k1, b1, Option.bind_some, b2, Option.bind_some, ld_ok (by omega), Option.bind_some, (b3.1 c k1.1 k1.2).2.2.2]
  · refine ⟨-1, μ, μ, ?_, ?_, H⟩
    · unfold ww_done; rw [hasCart_eq, c2, tF k1]
    · unfold mod_done; rw [mIsCart_eq c5, tF k1]
theorem E_jam_ok : E_jam Inv := by
  intro μ H h g2
  by_cases k2 : 1 ≤ h ∧ h ≤ 60
  · obtain ⟨h, rfl⟩ : ∃ n : Nat, h = (n : Int) := ⟨h.toNat, by omega⟩
    obtain ⟨μ1, ν1, ν', a1, a2, a3, b1, b2, b3, b4, b5, b6⟩ := run_both H (h := h) (by omega)
    refine ⟨runP (mR μ 0) idP h 5 0, μ1, ν', ?_, ?_, b6⟩
    · unfold ww_jam
      rw [isHour_eq, tT k2, a1, Option.bind_some, a2.2]
    · unfold mod_jam
      rw [mIsHour_eq, tT k2, b1, Option.bind_some, b2, Option.bind_some, b4 (by omega)]
  · refine ⟨-1, μ, μ, ?_, ?_, H⟩
    · unfold ww_jam; rw [isHour_eq, tF k2]
    · unfold mod_jam; rw [mIsHour_eq, tF k2]
theorem E_depth_ok : E_depth Inv := by
  intro μ H y w h g1 g2 g3
  obtain ⟨c1, c2, c3, c4, c5, c6⟩ := H.c
  by_cases k1 : 0 ≤ y ∧ y ≤ μ 61 2
  · by_cases k2 : 0 ≤ w ∧ w ≤ 2
    · by_cases k3 : 0 ≤ h ∧ h ≤ 60
      · have hl := H.hill (y := y) (by omega)
        by_cases k4 : μ 65 y.toNat = -4 ∨ μ 65 y.toNat = w
        · obtain ⟨h, rfl⟩ : ∃ n : Nat, h = (n : Int) := ⟨h.toNat, by omega⟩
          obtain ⟨μ1, ν1, ν', a1, a2, a3, b1, b2, b3, b4, b5, b6⟩ := run_both H (h := h) (by omega)
          refine ⟨runP (mR μ 0) idP h 4 (3 * y + w), μ1, ν', ?_, ?_, b6⟩
          · unfold ww_depth
            rw [hasYard_eq, c1, tT k1, isWidth_eq, tT k2, isBehind_eq, tT k3, hasRut_eq (by omega), show μ (1 + 1) y.toNat = μ 65 y.toNat from hl.1, tT ⟨by omega, k2, k4⟩, a1, Option.bind_some, rut_eq (by omega), Option.bind_some, depthOf_eq a2.1 (by omega), Option.bind_some]
          · have e61 : μ1 61 2 = μ 61 2 := a3 _ _ (by unfold Crun2; omega)
            have e65 : μ1 65 = μ 65 := a3.cell (fun j => by unfold Crun2; omega)
            unfold mod_depth
            rw [mIsYard_eq, e61, tT k1, mIsWidth_eq, tT k2, mIsTime_eq, tT k3, mHasRut_eq (by omega), e65, tT k4, b1, Option.bind_some, b2, Option.bind_some, wI_id (x := 3 * y) (by omega), wI_id (by omega), ld_ok (by omega), Option.bind_some, b3.2 _ (by omega) (by omega)]
        · refine ⟨-4, μ, μ, ?_, ?_, H⟩
          · unfold ww_depth
            rw [hasYard_eq, c1, tT k1, isWidth_eq, tT k2, isBehind_eq, tT k3, hasRut_eq (by omega), show μ (1 + 1) y.toNat = μ 65 y.toNat from hl.1, tF (fun z => k4 z.2.2)]
          · unfold mod_depth
            rw [mIsYard_eq, tT k1, mIsWidth_eq, tT k2, mIsTime_eq, tT k3, mHasRut_eq (by omega), tF k4]
      · refine ⟨-1, μ, μ, ?_, ?_, H⟩
        · unfold ww_depth; rw [hasYard_eq, c1, tT k1, isWidth_eq, tT k2, isBehind_eq, tF k3]
        · unfold mod_depth; rw [mIsYard_eq, tT k1, mIsWidth_eq, tT k2, mIsTime_eq, tF k3]
    · refine ⟨-1, μ, μ, ?_, ?_, H⟩
      · unfold ww_depth; rw [hasYard_eq, c1, tT k1, isWidth_eq, tF k2]
      · unfold mod_depth; rw [mIsYard_eq, tT k1, mIsWidth_eq, tF k2]
  · refine ⟨-1, μ, μ, ?_, ?_, H⟩
    · unfold ww_depth; rw [hasYard_eq, c1, tF k1]
    · unfold mod_depth; rw [mIsYard_eq, tF k1]
/-! ===== deepest ===== -/
def okK (R : Rd) (k : Int) : Prop := k < 3 * R 0 0 + 3 ∧ hasRutP R (k / 3) (k % 3)
noncomputable def stD (R S : Rd) (k b : Int) : Int := @ite _ (okK R k ∧ (b = -4 ∨ S 4 b < S 4 k)) (Classical.propDecidable _) k b
noncomputable def dpF (R S : Rd) : Nat → Int → Int → Int
  | 0, _, b => b
  | f + 1, k, b => dpF R S f (k + 1) (stD R S k b)
theorem stD_y {R S : Rd} {k b : Int} (h : okK R k ∧ (b = -4 ∨ S 4 b < S 4 k)) : stD R S k b = k := by unfold stD; rw [if_pos h]
theorem stD_n {R S : Rd} {k b : Int} (h : ¬ (okK R k ∧ (b = -4 ∨ S 4 b < S 4 k))) : stD R S k b = b := by unfold stD; rw [if_neg h]
theorem dpF_add {R S : Rd} : ∀ (f g : Nat) (k b : Int), dpF R S (f + g) k b = dpF R S g (k + f) (dpF R S f k b) := by
  intro f
  induction f with
  | zero => intro g k b; simp [dpF]
  | succ f ih => intro g k b; rw [show f + 1 + g = (f + g) + 1 by omega, dpF, ih, dpF, show k + ((f + 1 : Nat) : Int) = k + 1 + f by omega]
theorem dpF_no {R S : Rd} : ∀ (f : Nat) (k b : Int), 3 * R 0 0 + 3 ≤ k → dpF R S f k b = b := by
  intro f
  induction f with
  | zero => intro k b _; rfl
  | succ f ih => intro k b h; rw [dpF, stD_n (fun z => by have := z.1.1; omega), ih _ _ (by omega)]
theorem stD_in {R S : Rd} {k b : Int} (hk : 0 ≤ k ∧ k < 63) (hb : b = -4 ∨ 0 ≤ b ∧ b < 63) : stD R S k b = -4 ∨ 0 ≤ stD R S k b ∧ stD R S k b < 63 := by
  unfold stD; split <;> omega
theorem dpF_in {R S : Rd} : ∀ (f : Nat) (k b : Int), 0 ≤ k → k + f ≤ 63 → (b = -4 ∨ 0 ≤ b ∧ b < 63) → dpF R S f k b = -4 ∨ 0 ≤ dpF R S f k b ∧ dpF R S f k b < 63 := by
  intro f
  induction f with
  | zero => intro k b _ _ h; exact h
  | succ f ih => intro k b h1 h2 h3; exact ih _ _ (by omega) (by omega) (stD_in (by omega) h3)
theorem dpF_keep {R S : Rd} : ∀ (f : Nat) (k b : Int), 0 ≤ k → b ≠ -4 → dpF R S f k b ≠ -4 := by
  intro f
  induction f with
  | zero => intro k b _ h; exact h
  | succ f ih =>
    intro k b h0 h
    refine ih _ _ (by omega) ?_
    unfold stD; split <;> omega
theorem dpF_found {R S : Rd} {m : Nat} (hm : 3 ≤ m) (hR : 0 ≤ R 0 0) (hh : R 1 0 = -4 ∨ 0 ≤ R 1 0 ∧ R 1 0 ≤ 2) : dpF R S m 0 (-4) ≠ -4 := by
  obtain ⟨w, w1, w2⟩ : ∃ w : Nat, w < 3 ∧ hasRutP R 0 (w : Int) := by
    unfold hasRutP
    rcases hh with h | h
    · exact ⟨0, by omega, Or.inl h⟩
    · exact ⟨(R 1 0).toNat, by omega, Or.inr (by omega)⟩
  obtain ⟨g, hg⟩ : ∃ g, m = w + (g + 1) := ⟨m - w - 1, by omega⟩
  rw [hg, dpF_add, dpF]
  refine dpF_keep _ _ _ (by omega) ?_
  by_cases z : dpF R S w 0 (-4) = -4
  · rw [z, stD_y ⟨⟨by omega, by rw [show (0 + (w : Int)) / 3 = 0 by omega, show (0 + (w : Int)) % 3 = w by omega]; exact w2⟩, Or.inl rfl⟩]; omega
  · unfold stD; split <;> omega
def vlD (S : Rd) (b : Int) : Int := if b = -4 then -4 else S 4 b
theorem cdeep {μ : Mem} {R S : Rd} {t : Int} (hR : RCr μ R) (hO : Okr R) (hS : CM0 μ R S) (hV : RV R S t) (x : Int) : ∀ (m f : Nat) (k b : Int), m < f → 0 ≤ k → k + m = 63 → (b = -4 ∨ 0 ≤ b ∧ b < 63) → ww_deepest_33 f x (vlD S b) b k μ = some (if x = 0 then vlD S (dpF R S m k b) else dpF R S m k b, μ) := by
  have hb := hO.1
  intro m
  induction m with
  | zero =>
    intro f k b hf h0 he hbb
    obtain ⟨f, rfl⟩ : ∃ g, f = g + 1 := ⟨f - 1, by omega⟩
    rw [ww_deepest_33.eq_2, if_pos (by omega), dpF]
    split <;> rfl
  | succ m ih =>
    intro f k b hf h0 he hbb
    obtain ⟨f, rfl⟩ : ∃ g, f = g + 1 := ⟨f - 1, by omega⟩
    have hk := hV.2.1 k h0 (by omega)
    have hw : 0 ≤ k % 3 ∧ k % 3 ≤ 2 := by omega
    have hvl : -4 ≤ vlD S b ∧ (b = -4 → vlD S b = -4) ∧ (b ≠ -4 → vlD S b = S 4 b) := by
      unfold vlD
      by_cases z : b = -4
      · rw [if_pos z]; exact ⟨by omega, fun _ => rfl, fun q => absurd z q⟩
      · rw [if_neg z]
        have := hV.2.1 b (by omega) (by omega)
        exact ⟨by omega, fun q => absurd q z, fun _ => rfl⟩
    have e1 : μ (1 + 1) (k / 3).toNat = R 1 (k / 3) := hR.2.1 _ (by omega) (by omega)
    rw [ww_deepest_33.eq_2, if_neg (by omega), iDiv_eq (by omega) (by omega), iRem_eq (by omega) (by omega), hasRut_eq (by rw [hR.1.1]; omega), hR.1.1, e1]
    unfold ww_deepest_85
    rw [wI_id (x := k + 1) (by omega), dpF]
    by_cases z1 : okK R k
    · have z1' := z1
      unfold okK hasRutP at z1
      rw [tT (show (0 ≤ k / 3 ∧ k / 3 ≤ R 0 0) ∧ (0 ≤ k % 3 ∧ k % 3 ≤ 2) ∧ (R 1 (k / 3) = -4 ∨ R 1 (k / 3) = k % 3) from ⟨by omega, hw, z1.2⟩), depthOf_eq hS (by omega), Option.bind_some, Option.bind_some]
      by_cases z2 : S 4 k ≤ vlD S b
      · rw [if_pos z2, stD_n (fun q => by
          rcases q.2 with q | q
          · have := hvl.2.1 q; omega
          · by_cases y : b = -4
            · have := hvl.2.1 y; omega
            · have := hvl.2.2 y; omega)]
        exact ih f (k + 1) b (by omega) (by omega) (by omega) hbb
      · rw [if_neg z2, stD_y ⟨z1', by
          by_cases y : b = -4
          · exact Or.inl y
          · right; have := hvl.2.2 y; omega⟩]
        have h := ih f (k + 1) k (by omega) (by omega) (by omega) (Or.inr (by omega))
        have e : vlD S k = S 4 k := by unfold vlD; rw [if_neg (by omega)]
        rw [e] at h
        exact h
    · rw [tF (show ¬ ((0 ≤ k / 3 ∧ k / 3 ≤ R 0 0) ∧ (0 ≤ k % 3 ∧ k % 3 ≤ 2) ∧ (R 1 (k / 3) = -4 ∨ R 1 (k / 3) = k % 3)) from fun q => z1 ⟨by omega, q.2.2⟩), stD_n (fun q => z1 q.1)]
      exact ih f (k + 1) b (by omega) (by omega) (by omega) hbb
theorem mdeep {ν : Mem} {R S : Rd} {t : Int} (hM : MCr ν R) (hO : Okr R) (hS : RM0 ν R S) (hV : RV R S t) (x : Int) : ∀ (m f : Nat) (k b : Int), m < f → 0 ≤ k → k + m = 3 * R 0 0 + 3 → (b = -4 ∨ 0 ≤ b ∧ b < 63) → dpF R S m k b ≠ -4 → mod_deepest_34 f x b k ν = some (if x = 0 then S 4 (dpF R S m k b) else dpF R S m k b, ν) := by
  have hb := hO.1
  intro m
  induction m with
  | zero =>
    intro f k b hf h0 he hbb hne
    obtain ⟨f, rfl⟩ : ∃ g, f = g + 1 := ⟨f - 1, by omega⟩
    rw [dpF] at hne ⊢
    rw [mod_deepest_34.eq_2, hM.1.1, wI_id (x := 3 * R 0 0) (by omega), wI_id (by omega), if_pos (by omega), ld_ok (by omega), Option.bind_some, hS.2 b (by omega) (by omega)]
    split <;> rfl
  | succ m ih =>
    intro f k b hf h0 he hbb hne
    obtain ⟨f, rfl⟩ : ∃ g, f = g + 1 := ⟨f - 1, by omega⟩
    rw [dpF] at hne ⊢
    have hin := stD_in (R := R) (S := S) (k := k) (b := b) (by omega) hbb
    have nx := ih f (k + 1) (stD R S k b) (by omega) (by omega) (by omega) hin hne
    have e79 : ld ν 79 63 k = some (S 4 k) := by rw [ld_ok (by omega), hS.2 k (by omega) (by omega)]
    rw [mod_deepest_34.eq_2, hM.1.1, wI_id (x := 3 * R 0 0) (by omega), wI_id (x := 3 * R 0 0 + 3) (by omega), if_neg (by omega), iDiv_eq (by omega) (by omega), iRem_eq (by omega) (by omega), mHasRut_eq (by omega), hM.2.1 _ (by omega) (by omega), e79]
    unfold mod_deepest_84 mod_deepest_87
    rw [wI_id (x := k + 1) (by omega)]
    by_cases z1 : hasRutP R (k / 3) (k % 3)
    · have z1' := z1
      unfold hasRutP at z1
      rw [tT z1, Option.bind_some]
      by_cases z2 : b = -4
      · rw [if_pos z2]
        rw [stD_y ⟨⟨by omega, z1'⟩, Or.inl z2⟩] at nx ⊢
        exact nx
      · rw [if_neg z2, ld_ok (by omega), Option.bind_some, hS.2 b (by omega) (by omega)]
        by_cases z3 : S 4 k ≤ S 4 b
        · rw [if_pos z3]
          rw [stD_n (fun q => by rcases q.2 with q | q; exact z2 q; omega)] at nx ⊢
          exact nx
        · rw [if_neg z3]
          rw [stD_y ⟨⟨by omega, z1'⟩, Or.inr (by omega)⟩] at nx ⊢
          exact nx
    · have z1' := z1
      unfold hasRutP at z1
      rw [tF z1]
      rw [stD_n (fun q => z1' q.1.2)] at nx ⊢
      exact nx
theorem E_deepest_ok : E_deepest Inv := by
  intro μ H h x g1 g2
  obtain ⟨c1, c2, c3, c4, c5, c6⟩ := H.c
  obtain ⟨hR, hM, hO, hT⟩ := H.R
  by_cases k1 : 0 ≤ h ∧ h ≤ 60
  · by_cases k2 : 0 ≤ x ∧ x ≤ 1
    · obtain ⟨h, rfl⟩ : ∃ n : Nat, h = (n : Int) := ⟨h.toNat, by omega⟩
      obtain ⟨μ1, ν1, ν', a1, a2, a3, b1, b2, b3, b4, b5, b6⟩ := run_both H (h := h) (by omega)
      have hV := RV.run (p := idP) hO.r (fun i i1 i2 => ⟨i1, i2⟩) h (by omega)
      have hR1 : RCr μ1 (mR μ 0) := hR.r.off (fun a h1 h2 => a3.cell (fun j => by unfold Crun2; omega))
      have hM1 : MCr ν' (mR μ 0) := by
        refine ((MCr_mR μ).off ?_ (fun j _ => ?_) ?_ ?_ ?_ : MCr μ1 (mR μ 0)).off (b5 _ _ (by unfold Rrun2; omega)) (fun j _ => b5 _ _ (by unfold Rrun2; omega)) (b5.cell (by unfold Rrun2; omega)) (b5.cell (by unfold Rrun2; omega)) (b5.cell (by unfold Rrun2; omega))
        · exact a3 _ _ (by unfold Crun2; omega)
        · exact a3 _ _ (by unfold Crun2; omega)
        · exact a3.cell (by unfold Crun2; omega)
        · exact a3.cell (by unfold Crun2; omega)
        · exact a3.cell (by unfold Crun2; omega)
      have hl : mR μ 0 0 0 = μ 61 2 := rfl
      obtain ⟨n, hn⟩ : ∃ n : Nat, (n : Int) = 3 * mR μ 0 0 0 + 3 := ⟨(3 * mR μ 0 0 0 + 3).toNat, by omega⟩
      have hne := dpF_found (R := mR μ 0) (S := runP (mR μ 0) idP h) (m := n) (by omega) (by omega) (hO.2.1 0 (by omega) (by omega))
      have eC := cdeep (μ := μ1) hR1 hO.r a2.1 hV x 63 BIG 0 (-4) (by have := BIG_gt; omega) (by omega) (by omega) (Or.inl rfl)
      have eM := mdeep (ν := ν') hM1 hO.r b3 hV x n BIG 0 (-4) (by have := BIG_gt; omega) (by omega) (by omega) (Or.inl rfl) hne
      have e : dpF (mR μ 0) (runP (mR μ 0) idP h) 63 0 (-4) = dpF (mR μ 0) (runP (mR μ 0) idP h) n 0 (-4) := by
        obtain ⟨g, hg⟩ : ∃ g, 63 = n + g := ⟨63 - n, by omega⟩
        rw [hg, dpF_add, dpF_no _ _ _ (by omega)]
      rw [e] at eC
      have ev : vlD (runP (mR μ 0) idP h) (dpF (mR μ 0) (runP (mR μ 0) idP h) n 0 (-4)) = runP (mR μ 0) idP h 4 (dpF (mR μ 0) (runP (mR μ 0) idP h) n 0 (-4)) := by unfold vlD; rw [if_neg hne]
      rw [ev] at eC
      refine ⟨(if x = 0 then runP (mR μ 0) idP h 4 (dpF (mR μ 0) (runP (mR μ 0) idP h) n 0 (-4)) else dpF (mR μ 0) (runP (mR μ 0) idP h) n 0 (-4)), μ1, ν', ?_, ?_, b6⟩
      · unfold ww_deepest
        rw [isBehind_eq, tT k1, if_neg (by omega), if_pos k2.2, a1, Option.bind_some]
        exact eC
      · unfold mod_deepest
        rw [mIsTime_eq, tT k1, in_eq, tT k2, b1, Option.bind_some, b2, Option.bind_some]
        exact eM
    · refine ⟨-1, μ, μ, ?_, ?_, H⟩
      · unfold ww_deepest
        rw [isBehind_eq, tT k1]
        by_cases h0 : x < 0
        · rw [if_pos h0]
        · rw [if_neg h0, if_neg (by omega)]
      · unfold mod_deepest; rw [mIsTime_eq, tT k1, in_eq, tF k2]
  · refine ⟨-1, μ, μ, ?_, ?_, H⟩
    · unfold ww_deepest; rw [isBehind_eq, tF k1]
    · unfold mod_deepest; rw [mIsTime_eq, tF k1]
