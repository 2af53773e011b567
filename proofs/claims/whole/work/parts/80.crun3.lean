def Crun2 (a _j : Nat) : Prop := 35 ≤ a ∧ a ≤ 45
theorem Crun.up {a j : Nat} (h : Crun a j) : Crun2 a j := by unfold Crun at h; unfold Crun2; omega
theorem CM0.w {μ : Mem} {R S : Rd} (H : CM0 μ R S) : CM (mset μ 35 12 0) R (uq S 5 0 0) := by
  obtain ⟨h1, h2, h3, h4, h5⟩ := H
  refine ⟨⟨fun d d1 d2 => ?_, fun j j1 j2 => ?_, ?_, ?_, ?_⟩, ?_⟩
  · rw [mset_off (by omega), mset_off (by omega), mset_off (by omega), mset_off (by omega), uq_ap, if_neg (by omega), uq_ap, if_neg (by omega), uq_ap, if_neg (by omega), uq_ap, if_neg (by omega)]; exact h1 d d1 d2
  · rw [mset_off (by omega), mset_off (a := 43) (by omega), mset_ne (by omega), uq_ap, if_neg (by omega)]; exact h2 j j1 j2
  · rw [mset_ne (by omega)]; exact h3
  · rw [mset_ne (by omega), h4]
    refine (leftN_same _ (fun d _ _ => ?_)).symm
    rw [uq_ap, if_neg (by omega)]
  · rw [mset_ne (by omega), uq_ap, if_neg (by omega)]; exact h5
  · rw [mset_same, uq_ap, if_pos ⟨rfl, rfl⟩]
theorem row_done {R S : Rd} {p : Int → Int} {h t : Int} (hO : Okr R) (hp : inP R p) (hh : 1 ≤ h ∧ h ≤ 60) (ht : 0 ≤ t) (hV : RV R S t) {i : Nat} (hi : (i : Int) ≤ R 0 1) (hd : ∀ c : Int, 0 ≤ c → c < R 0 1 → rowP R h p i S 3 c ≠ -4) : ∀ k : Nat, ((i + k : Nat) : Int) ≤ R 0 1 → rowP R h p (i + k) S = rowP R h p i S := by
  intro k
  induction k with
  | zero => intro _; rfl
  | succ k ih =>
    intro hk
    have e := ih (by omega)
    rw [show i + (k + 1) = (i + k) + 1 by omega, rowP, e]
    have hpi := hp ((i + k : Nat) : Int) (by omega) (by omega)
    have hv := ((RV.row hO hp hh ht hV i hi).1 _ hpi.1 hpi.2).2.2.2.1
    refine move_no (fun q => hd _ hpi.1 hpi.2 (hv.mpr q.1))
theorem crow_eq {R S : Rd} {p : Int → Int} {h t : Int} (hO : Okr R) (hp : inP R p) (hh : 1 ≤ h ∧ h ≤ 60) (ht : 0 ≤ t ∧ t ≤ 1000) (hV : RV R S t) : ∀ (m f i : Nat) (μ : Mem), m < f → (i : Int) + m = R 0 1 → RCr μ R → OrdM μ 37 (R 0 1) p → μ 36 1 = R 0 1 → CM μ R (rowP R h p i S) → ∃ μ', run_goHour_7 f h (i : Int) μ = run_goHour_47 h μ' ∧ Off Crun μ μ' ∧ CM μ' R (rowP R h p (R 0 1).toNat S) := by
  have hb := hO.1
  intro m
  induction m with
  | zero =>
    intro f i μ hf hi hR hP h36 hS
    obtain ⟨f, rfl⟩ : ∃ g, f = g + 1 := ⟨f - 1, by omega⟩
    refine ⟨μ, ?_, Off.rf, ?_⟩
    · rw [run_goHour_7.eq_2]
      by_cases z : μ 35 9 ≤ 0
      · rw [if_pos z]
      · rw [if_neg z, if_pos (by omega)]
    · rw [show (R 0 1).toNat = i by omega]; exact hS
  | succ m ih =>
    intro f i μ hf hi hR hP h36 hS
    obtain ⟨f, rfl⟩ : ∃ g, f = g + 1 := ⟨f - 1, by omega⟩
    by_cases z : μ 35 9 ≤ 0
    · have hl := hS.1.2.2.2.1
      have hl2 := leftN_nn (rowP R h p i S) (R 0 1).toNat
      have h0 := (leftN_zero (S := rowP R h p i S) (R 0 1).toNat).mp (by omega)
      refine ⟨μ, ?_, Off.rf, ?_⟩
      · rw [run_goHour_7.eq_2, if_pos z]
      · have e := row_done hO hp hh ht.1 hV (i := i) (by omega) (fun c c1 c2 => h0 c c1 (by omega)) ((R 0 1).toNat - i) (by omega)
        rw [show i + ((R 0 1).toNat - i) = (R 0 1).toNat by omega] at e
        rw [e]; exact hS
    · obtain ⟨μ1, g1, g2, g3⟩ := moveIn_eq (c := p i) hR hO hS (RV.row hO hp hh ht.1 hV i (by omega)) (by omega) (hp i (by omega) (by omega)) hh
      obtain ⟨μ2, k1, k2, k3⟩ := ih f (i + 1) μ1 (by omega) (by omega) (hR.keep g2) (fun j j1 j2 => by rw [g2 _ _ (by unfold Crun; omega)]; exact hP j j1 j2) (by rw [g2 _ _ (by unfold Crun; omega)]; exact h36) g3
      refine ⟨μ2, ?_, g2.tr k2, k3⟩
      rw [run_goHour_7.eq_2, if_neg z, if_neg (by omega), at_in (by omega), Option.bind_some, hP i (by omega) (by omega), g1, Option.bind_some, wI_id (by omega), show (i : Int) + 1 = ((i + 1 : Nat) : Int) by omega, k1]
def Crun1 (a j : Nat) : Prop := (a = 35 ∧ j ≠ 11) ∨ (38 ≤ a ∧ a ≤ 43)
theorem cthaw_eq {μ : Mem} {R S : Rd} {h t : Int} (hR : RCr μ R) (hh : 1 ≤ h ∧ h ≤ 60) (hV : RV R S t) (hS : CM μ R S) (hf : μ 35 8 ≤ 100) : ∃ μ', run_goHour_47 h μ = some μ' ∧ Off Crun1 μ μ' ∧ CM μ' R (thawP R h S) ∧ μ' 35 8 ≤ μ 35 8 + 1 := by
  unfold run_goHour_47 bnd
  rw [cfro hR (by omega), Option.bind_some]
  by_cases z : R 8 h = 1
  · have h8 := hS.1.2.2.1
    rw [if_pos z, if_neg (by omega), wI_id (by omega)]
    refine ⟨_, rfl, Off.rf.set (by unfold Crun1; omega), ⟨⟨fun d d1 d2 => ?_, fun j j1 j2 => ?_, ?_, ?_, ?_⟩, ?_⟩, ?_⟩
    · rw [mset_off (by omega), mset_off (by omega), mset_off (by omega), mset_off (by omega), thaw_n _ _ _ 0 _ (by omega), thaw_n _ _ _ 1 _ (by omega), thaw_n _ _ _ 2 _ (by omega), thaw_n _ _ _ 3 _ (by omega)]
      exact hS.1.1 d d1 d2
    · obtain ⟨a1, a2, a3⟩ := hS.1.2.1 j j1 j2
      rw [mset_off (by omega), mset_off (by omega), mset_same, thaw_ap, ← a3]
      refine ⟨a1, by omega, ?_⟩
      unfold iMax
      by_cases y : 0 < μ 42 j.toNat - (μ 35 8 - μ 43 j.toNat)
      · rw [if_pos (show 0 < μ 42 j.toNat - (μ 35 8 - μ 43 j.toNat) from y)]
        rw [if_pos (show R 8 h = 1 ∧ (4 : Nat) = 4 ∧ 0 < μ 42 j.toNat - (μ 35 8 - μ 43 j.toNat) from ⟨z, rfl, y⟩)]
        split <;> omega
      · rw [if_neg (show ¬ 0 < μ 42 j.toNat - (μ 35 8 - μ 43 j.toNat) from y)]
        rw [if_neg (show ¬ (R 8 h = 1 ∧ (4 : Nat) = 4 ∧ (0 : Int) < 0) from fun q => by omega)]
        split <;> omega
    · rw [mset_same]; omega
    · rw [mset_ne (by omega), hS.1.2.2.2.1]
      refine (leftN_same _ (fun d _ _ => ?_)).symm
      rw [thaw_n _ _ _ 3 _ (by omega)]
    · rw [mset_ne (by omega), thaw_n _ _ _ 6 _ (by omega)]; exact hS.1.2.2.2.2
    · rw [mset_ne (by omega), thaw_n _ _ _ 5 _ (by omega)]; exact hS.2
    · rw [mset_same]; omega
  · rw [if_neg z, if_pos rfl]
    refine ⟨μ, rfl, Off.rf, ?_, by omega⟩
    unfold thawP; rw [if_neg z]; exact hS
theorem chour_eq {μ : Mem} {R S : Rd} {p : Int → Int} {h t : Int} (hR : RCr μ R) (hO : Okr R) (hp : inP R p) (hP : OrdM μ 37 (R 0 1) p) (h36 : μ 36 1 = R 0 1) (hh : 1 ≤ h ∧ h ≤ 60) (ht : 0 ≤ t ∧ t ≤ 1000) (hV : RV R S t) (hS : CM0 μ R S) (hf : μ 35 8 ≤ 100) : ∃ μ', run_goHour h μ = some μ' ∧ Off Crun1 μ μ' ∧ CM μ' R (hourP R p h S) ∧ μ' 35 8 ≤ μ 35 8 + 1 := by
  have hb := hO.1
  have up : ∀ a j, Crun a j → Crun1 a j := fun a j h => by unfold Crun at h; unfold Crun1; omega
  have h0 : Off Crun μ (mset μ 35 12 0) := Off.rf.set (by unfold Crun; omega)
  obtain ⟨μ1, a1, a2, a3⟩ := crow_eq hO hp hh ht (hV.w (v := 0)) (R 0 1).toNat BIG 0 (mset μ 35 12 0) (by have := BIG_gt; omega) (by omega) (hR.keep h0) (fun j j1 j2 => by rw [h0 _ _ (by unfold Crun; omega)]; exact hP j j1 j2) (by rw [h0 _ _ (by unfold Crun; omega)]; exact h36) hS.w
  have e8 : μ1 35 8 = μ 35 8 := by rw [a2 _ _ (by unfold Crun; omega), mset_ne (by omega)]
  obtain ⟨μ2, b1, b2, b3, b4⟩ := cthaw_eq ((hR.keep h0).keep a2) hh (RV.row hO hp hh ht.1 (hV.w (v := 0)) (R 0 1).toNat (by omega)) a3 (by omega)
  have e0 : ((0 : Nat) : Int) = 0 := rfl
  rw [e0] at a1
  refine ⟨μ2, ?_, ((h0.mono up).tr (a2.mono up)).tr b2, b3, by omega⟩
  unfold run_goHour bnd
  dsimp only
  rw [a1, b1]
theorem RCr.keep1 {μ μ' : Mem} {R : Rd} (h : Off Crun1 μ μ') (H : RCr μ R) : RCr μ' R := H.off (fun a _ _ => h.cell (fun j => by unfold Crun1; omega))
theorem upTo2 {R : Rd} {p : Int → Int} (hO : Okr R) (hp : inP R p) {h : Nat} (hh : h ≤ 60) : ∀ (m f i : Nat) (μ : Mem), m < f → i + m = h → RCr μ R → OrdM μ 37 (R 0 1) p → μ 36 1 = R 0 1 → CM μ R (runP R p i) → μ 35 8 ≤ i → ∃ μ', run_upTo_2 f (h : Int) ((i + 1 : Nat) : Int) μ = some μ' ∧ Off Crun1 μ μ' ∧ CM μ' R (runP R p h) := by
  intro m
  induction m with
  | zero =>
    intro f i μ hf hi hR hP h36 hS h8
    obtain ⟨f, rfl⟩ : ∃ g, f = g + 1 := ⟨f - 1, by omega⟩
    have : i = h := by omega
    subst this
    refine ⟨μ, ?_, Off.rf, hS⟩
    rw [run_upTo_2.eq_2, if_pos (by omega)]
  | succ m ih =>
    intro f i μ hf hi hR hP h36 hS h8
    obtain ⟨f, rfl⟩ : ∃ g, f = g + 1 := ⟨f - 1, by omega⟩
    obtain ⟨μ1, a1, a2, a3, a4⟩ := chour_eq (h := ((i + 1 : Nat) : Int)) hR hO hp hP h36 (by omega) (t := 5 * i) (by omega) (RV.run hO hp i (by omega)) hS.1 (by omega)
    obtain ⟨μ2, b1, b2, b3⟩ := ih f (i + 1) μ1 (by omega) (by omega) (hR.keep1 a2) (fun j j1 j2 => by rw [a2 _ _ (by unfold Crun1; omega)]; exact hP j j1 j2) (by rw [a2 _ _ (by unfold Crun1; omega)]; exact h36) a3 (by omega)
    refine ⟨μ2, ?_, a2.tr b2, b3⟩
    rw [run_upTo_2.eq_2, if_neg (by omega), a1, Option.bind_some, wI_id (by omega), show ((i + 1 : Nat) : Int) + 1 = ((i + 1 + 1 : Nat) : Int) by omega, b1]
/-! ===== its beginning ===== -/
theorem ordbegin_11 (o : Nat) : ∀ (f i : Nat) (μ : Mem), i ≤ 5 → 5 - i < f → ∃ μ', ord_begin_11 o f (i : Int) μ = some μ' ∧ (∀ a j, a ≠ o + 1 → μ' a j = μ a j) ∧ (∀ j, j < i → μ' (o + 1) j = μ (o + 1) j) ∧ ∀ j : Nat, i ≤ j → j < 5 → μ' (o + 1) j = (j : Int) := by
  intro f
  induction f with
  | zero => intro i μ h1 h2; omega
  | succ f ih =>
    intro i μ h1 h2
    rw [ord_begin_11.eq_2]
    by_cases z : (5 : Int) ≤ i
    · rw [if_pos z]
      exact ⟨μ, rfl, fun a j _ => rfl, fun j _ => rfl, fun j j1 j2 => by omega⟩
    · obtain ⟨μ', g1, g2, g3, g4⟩ := ih (i + 1) (mset μ (o + 1) i (i : Int)) (by omega) (by omega)
      refine ⟨μ', ?_, fun a j ha => by rw [g2 a j ha, mset_off ha], fun j hj => by rw [g3 j (by omega), mset_ne (by omega)], fun j j1 j2 => ?_⟩
      · rw [if_neg z, stx_ok (by omega), Option.bind_some, wI_id (by omega), Int.toNat_natCast, show (i : Int) + 1 = ((i + 1 : Nat) : Int) by omega, g1]
      · by_cases y : j = i
        · rw [y, g3 i (by omega), mset_same]
        · exact g4 j (by omega) j2
def idP : Int → Int := fun i => i
theorem obA (o : Nat) (n : Int) (μ : Mem) : ord_begin o n μ = ord_begin_11 o BIG 0 (mset μ o 1 (iMin n 5)) := by
  rw [ord_begin.eq_1, bnd.eq_1]
theorem obB (o : Nat) (μ : Mem) : ∃ μ', ord_begin_11 o BIG 0 μ = some μ' ∧ (∀ a j, a ≠ o + 1 → μ' a j = μ a j) ∧ ∀ j : Nat, j < 5 → μ' (o + 1) j = (j : Int) := by
  obtain ⟨μ', g1, g2, g3, g4⟩ := ordbegin_11 o BIG 0 μ (by omega) (by have := BIG_gt; omega)
  have e0 : ((0 : Nat) : Int) = 0 := rfl
  rw [e0] at g1
  exact ⟨μ', g1, g2, fun j h => g4 j (by omega) h⟩
theorem obC {n : Int} (hn : n ≤ 5) : iMin n 5 = n := by unfold iMin; split <;> omega
theorem ordbegin_eq {o : Nat} {n : Int} (hn : n ≤ 5) (μ : Mem) : ∃ μ', ord_begin o n μ = some μ' ∧ (∀ a j, ¬ (a = o ∧ j = 1) → a ≠ o + 1 → μ' a j = μ a j) ∧ μ' o 1 = n ∧ OrdM μ' (o + 1) 5 idP := by
  have h := obB o (mset μ o 1 n)
  rw [obA, obC hn]
  generalize ord_begin_11 o BIG 0 (mset μ o 1 n) = x at h ⊢
  obtain ⟨μ', g1, g2, g4⟩ := h
  refine ⟨μ', g1, fun a j h1 h2 => ?_, ?_, fun i i1 i2 => ?_⟩
  · rw [g2 a j h2, mset_ne h1]
  · rw [g2 _ _ (by omega), mset_same]
  · rw [g4 i.toNat (by omega)]; unfold idP; omega
theorem copyOf_eq {o o1 : Nat} (h : o1 ≠ o ∧ o1 + 1 ≠ o ∧ o1 ≠ o + 1) (μ : Mem) : ord_copyOf o o1 μ = some (cpM (mset μ o 1 (μ o1 1)) (o1 + 1) (o + 1) 5) := by
  unfold ord_copyOf bnd
  dsimp only
  rw [ww_copy_eq (by omega) (by omega), Option.bind_some]
theorem begin112 {R : Rd} (hO : Okr R) (o1 : Nat) : ∀ (m f i : Nat) (μ : Mem), m < f → (i : Int) + m = R 0 1 → RCr μ R → (∀ c : Int, 0 ≤ c → c < i → pt R c 6 ≤ μ 35 11) → ∃ μ', run_begin_112 o1 f (i : Int) μ = some μ' ∧ (∀ a j, ¬ (a = 35 ∧ (j = 11 ∨ j = 12)) → μ' a j = μ a j) ∧ μ' 35 12 = 0 ∧ ∀ c : Int, 0 ≤ c → c < R 0 1 → pt R c 6 ≤ μ' 35 11 := by
  have hb := hO.1
  intro m
  induction m with
  | zero =>
    intro f i μ hf hi hR hS
    obtain ⟨f, rfl⟩ : ∃ g, f = g + 1 := ⟨f - 1, by omega⟩
    rw [run_begin_112.eq_2, if_pos (by rw [hR.1.2]; omega)]
    exact ⟨_, rfl, fun a j h => by rw [mset_ne (by omega)], by rw [mset_same], fun c c1 c2 => by rw [mset_ne (by omega)]; exact hS c c1 (by omega)⟩
  | succ m ih =>
    intro f i μ hf hi hR hS
    obtain ⟨f, rfl⟩ : ∃ g, f = g + 1 := ⟨f - 1, by omega⟩
    obtain ⟨μ', g1, g2, g3, g4⟩ := ih f (i + 1) (mset μ 35 11 (iMax (μ 35 11) (pt R i 6))) (by omega) (by omega) (hR.set (by omega)) (fun c c1 c2 => by
      rw [mset_same]
      by_cases z : c = (i : Int)
      · rw [z]; unfold iMax; split <;> omega
      · have := hS c c1 (by omega)
        unfold iMax; split <;> omega)
    refine ⟨μ', ?_, fun a j h => by rw [g2 a j h, mset_ne (by omega)], g3, g4⟩
    rw [run_begin_112.eq_2, if_neg (by rw [hR.1.2]; omega), cpart hR (by omega) (by omega), Option.bind_some]
    unfold bnd
    dsimp only
    rw [wI_id (by omega), show (i : Int) + 1 = ((i + 1 : Nat) : Int) by omega, g1]
theorem leftN_all {S : Rd} : ∀ n : Nat, (∀ c : Int, 0 ≤ c → c < n → S 3 c = -4) → leftN S n = n := by
  intro n
  induction n with
  | zero => intro _; rfl
  | succ n ih => intro h; rw [leftN, ih (fun c c1 c2 => h c c1 (by omega)), if_pos (h n (by omega) (by omega))]; omega
/-- the memory ahead of the loop over starts -/
def bgM (μ : Mem) : Mem := mset (mset (mset (mset (wipeM (cpM (wipeM (wipeM (wipeM μ 39 5 0) 40 5 0) 41 5 0) 5 42 63) 43 63 0) 35 8 0) 35 9 (μ 1 10)) 35 10 0) 35 11 0
theorem bgM_n {μ : Mem} {a j : Nat} (h : a ≠ 35) (h2 : a < 39 ∨ 43 < a) : bgM μ a j = μ a j := by
  unfold bgM
  rw [mset_off h, mset_off h, mset_off h, mset_off h]
  unfold wipeM
  rw [if_neg (by omega), cp_off (by omega), if_neg (by omega), if_neg (by omega), if_neg (by omega)]
theorem wipe_eq' {a n : Nat} (hn : n < 2147483647) (v : Int) (μ : Mem) : ww_wipe a n v μ = some (wipeM μ a n v) := ww_wipe_eq a n hn v μ
theorem begin10 (o1 : Nat) : ∀ (f i : Nat) (μ : Mem), i ≤ 5 → 5 - i < f → ∃ μ', run_begin_10 o1 f (i : Int) μ = run_begin_112 o1 BIG 0 (bgM μ') ∧ (∀ a j, a ≠ 38 → μ' a j = μ a j) ∧ (∀ j, j < i → μ' 38 j = μ 38 j) ∧ ∀ j : Nat, i ≤ j → j < 5 → μ' 38 j = μ 6 (7 * j + 4) := by
  intro f
  induction f with
  | zero => intro i μ h1 h2; omega
  | succ f ih =>
    intro i μ h1 h2
    rw [run_begin_10.eq_2]
    by_cases z : (5 : Int) ≤ i
    · refine ⟨μ, ?_, fun a j _ => rfl, fun j _ => rfl, fun j j1 j2 => by omega⟩
      rw [if_pos z, wipe_eq' (by omega), Option.bind_some, wipe_eq' (by omega), Option.bind_some, wipe_eq' (by omega), Option.bind_some, ww_copy_eq (by omega) (by omega), Option.bind_some, wipe_eq' (by omega), Option.bind_some]
      unfold bnd bgM
      dsimp only
      congr 5
    · obtain ⟨μ', g1, g2, g3, g4⟩ := ih (i + 1) (mset μ 38 i (μ 6 (7 * i + 4))) (by omega) (by omega)
      refine ⟨μ', ?_, fun a j ha => by rw [g2 a j ha, mset_off ha], fun j hj => by rw [g3 j (by omega), mset_ne (by omega)], fun j j1 j2 => ?_⟩
      · rw [if_neg z, part_eq (by omega), Option.bind_some, put_in (by omega), Option.bind_some, wI_id (by omega), Int.toNat_natCast, show (7 * (i : Int) + 4).toNat = 7 * i + 4 by omega, show (i : Int) + 1 = ((i + 1 : Nat) : Int) by omega]
        exact g1
      · by_cases y : j = i
        · rw [y, g3 i (by omega), mset_same]
        · rw [g4 j (by omega) j2, mset_off (by omega)]
theorem begin_eq {μ : Mem} {R : Rd} {p : Int → Int} {o1 : Nat} (ho : 44 ≤ o1) (hR : RCr μ R) (hD : ∀ k : Int, 0 ≤ k → k < 63 → μ 5 k.toNat = R 5 k) (hO : Okr R) (hP : OrdM μ (o1 + 1) 5 p) : ∃ μ', run_begin o1 μ = some μ' ∧ Off Crun2 μ μ' ∧ (∀ a, 44 ≤ a → μ' a = μ a) ∧ CM μ' R (startP R) ∧ μ' 36 1 = μ o1 1 ∧ OrdM μ' 37 5 p ∧ μ' 35 8 = 0 ∧ ∀ c : Int, 0 ≤ c → c < R 0 1 → pt R c 6 ≤ μ' 35 11 := by
  have hb := hO.1
  obtain ⟨μ1, a1, a2, a3, a4⟩ := begin10 o1 BIG 0 (cpM (mset μ 36 1 (μ o1 1)) (o1 + 1) (36 + 1) 5) (by omega) (by have := BIG_gt; omega)
  have e0 : ((0 : Nat) : Int) = 0 := rfl
  rw [e0] at a1
  have q1 : ∀ a j, a ≠ 36 → a ≠ 37 → a ≠ 38 → μ1 a j = μ a j := fun a j h1 h2 h3 => by
    rw [a2 a j h3, cp_off h2, mset_off h1]
  have hRb : RCr (bgM μ1) R := hR.off (fun a h1 h2 => funext fun j => by rw [bgM_n (by omega) (by omega), q1 a j (by omega) (by omega) (by omega)])
  obtain ⟨μ2, b1, b2, b3, b4⟩ := begin112 hO o1 (R 0 1).toNat BIG 0 (bgM μ1) (by have := BIG_gt; omega) (by omega) hRb (fun c c1 c2 => by omega)
  rw [e0] at b1
  have q2 : ∀ a j, a < 35 ∨ 43 < a → μ2 a j = μ a j := fun a j h => by
    rw [b2 a j (by omega), bgM_n (by omega) (by omega), q1 a j (by omega) (by omega) (by omega)]
  have s8 : bgM μ1 35 8 = 0 := by unfold bgM; rw [mset_ne (by omega), mset_ne (by omega), mset_ne (by omega), mset_same]
  have s9 : bgM μ1 35 9 = R 0 1 := by unfold bgM; rw [mset_ne (by omega), mset_ne (by omega), mset_same, q1 _ _ (by omega) (by omega) (by omega)]; exact hR.1.2
  have s10 : bgM μ1 35 10 = 0 := by unfold bgM; rw [mset_ne (by omega), mset_same]
  have r38 : ∀ j, bgM μ1 38 j = μ1 38 j := fun j => bgM_n (by omega) (by omega)
  have r39 : ∀ j, j < 5 → bgM μ1 39 j = 0 := fun j hj => by
    unfold bgM wipeM
    rw [mset_off (by omega), mset_off (by omega), mset_off (by omega), mset_off (by omega), if_neg (by omega), cp_off (by omega), if_neg (by omega), if_neg (by omega), if_pos ⟨rfl, hj⟩]
  have r40 : ∀ j, j < 5 → bgM μ1 40 j = 0 := fun j hj => by
    unfold bgM wipeM
    rw [mset_off (by omega), mset_off (by omega), mset_off (by omega), mset_off (by omega), if_neg (by omega), cp_off (by omega), if_neg (by omega), if_pos ⟨rfl, hj⟩]
  have r41 : ∀ j, j < 5 → bgM μ1 41 j = 0 := fun j hj => by
    unfold bgM wipeM
    rw [mset_off (by omega), mset_off (by omega), mset_off (by omega), mset_off (by omega), if_neg (by omega), cp_off (by omega), if_pos ⟨rfl, hj⟩]
  have r42 : ∀ j, j < 63 → bgM μ1 42 j = μ 5 j := fun j hj => by
    unfold bgM wipeM
    rw [mset_off (by omega), mset_off (by omega), mset_off (by omega), mset_off (by omega), if_neg (by omega), cp_in hj, if_neg (by omega), if_neg (by omega), if_neg (by omega), q1 _ _ (by omega) (by omega) (by omega)]
  have r43 : ∀ j, j < 63 → bgM μ1 43 j = 0 := fun j hj => by
    unfold bgM wipeM
    rw [mset_off (by omega), mset_off (by omega), mset_off (by omega), mset_off (by omega), if_pos ⟨rfl, hj⟩]
  refine ⟨μ2, ?_, fun a j n => q2 a j (by unfold Crun2 at n; omega), fun a ha => funext fun j => q2 a j (by omega), ⟨⟨fun c c1 c2 => ?_, fun k k1 k2 => ?_, ?_, ?_, ?_⟩, ?_⟩, ?_, fun i i1 i2 => ?_, ?_, b4⟩
  · unfold run_begin
    rw [copyOf_eq (by omega), Option.bind_some, a1, b1]
  · rw [b2 _ _ (by omega), b2 _ _ (by omega), b2 _ _ (by omega), b2 _ _ (by omega), r38, r39 _ (by omega), r40 _ (by omega), r41 _ (by omega), a4 c.toNat (by omega) (by omega), cp_off (by omega), mset_off (by omega)]
    have h6 := hR.2.2.2.2.1 (7 * c + 4) (by omega) (by omega)
    unfold startP pt dn0
    simp only [if_true, show ¬ (1 : Nat) = 0 by omega, show ¬ (1 : Nat) = 3 by omega, show ¬ (1 : Nat) = 4 by omega, show ¬ (2 : Nat) = 0 by omega, show ¬ (2 : Nat) = 3 by omega, show ¬ (2 : Nat) = 4 by omega, show ¬ (3 : Nat) = 0 by omega, if_false]
    rw [← h6, show (7 * c + 4).toNat = 7 * c.toNat + 4 by omega]
    exact ⟨rfl, trivial, trivial, trivial⟩
  · have h5 := hO.2.2.2.2.1 k k1 k2
    rw [b2 _ _ (by omega), b2 _ _ (by omega), b2 _ _ (by omega), s8, r42 _ (by omega), r43 _ (by omega), hD k k1 k2]
    unfold startP
    simp only [show ¬ (4 : Nat) = 0 by omega, show ¬ (4 : Nat) = 3 by omega, if_true, if_false]
    refine ⟨h5, by omega, ?_⟩
    unfold iMax; split <;> omega
  · rw [b2 _ _ (by omega), s8]; omega
  · rw [b2 _ _ (by omega), s9, leftN_all _ (fun c _ _ => rfl)]; omega
  · rw [b2 _ _ (by omega), s10]; rfl
  · rw [b3]; rfl
  · rw [b2 _ _ (by omega), bgM_n (by omega) (by omega), a2 _ _ (by omega), cp_off (by omega), mset_same]
  · rw [b2 _ _ (by omega), bgM_n (by omega) (by omega), a2 _ _ (by omega), show (37 : Nat) = 36 + 1 from rfl, cp_in (by omega), mset_off (by omega)]
    exact hP i i1 i2
  · rw [b2 _ _ (by omega), s8]
/-! ===== both runs by number ===== -/
theorem cRun_eq {μ : Mem} {R : Rd} {h : Nat} (hR : RC μ 1 R) (hO : Okr R) (hh : h ≤ 60) : ∃ μ', ww_runUpTo (h : Int) μ = some μ' ∧ Off Crun2 μ μ' ∧ CM μ' R (runP R idP h) := by
  have hb := hO.1
  have hid : inP R idP := fun i i1 i2 => ⟨i1, i2⟩
  obtain ⟨μ1, a1, a2, a3, a4⟩ := ordbegin_eq (o := 44) (n := R 0 1) (by omega) μ
  have o1 : Off Crun2 μ μ1 := fun a j n => a2 a j (by unfold Crun2 at n; omega) (by unfold Crun2 at n; omega)
  have hR1 : RC μ1 1 R := hR.off (fun a h1 h2 => o1.cell (fun j => by unfold Crun2; omega))
  obtain ⟨μ2, b1, b2, b2', b3, b4, b5, b6, b7⟩ := begin_eq (o1 := 44) (by omega) hR1.r (fun k k1 k2 => hR1.2.2.2.2.2.1 k k1 k2) hO a4
  have hR2 : RC μ2 1 R := hR1.off (fun a h1 h2 => b2.cell (fun j => by unfold Crun2; omega))
  obtain ⟨μ3, c1, c2, c3⟩ := upTo2 hO hid hh h BIG 0 μ2 (by have := BIG_gt; omega) (by omega) hR2.r (fun i i1 i2 => b5 i i1 (by omega)) (by rw [b4, a3]) b3 (by omega)
  have e1 : ((0 + 1 : Nat) : Int) = 1 := rfl
  rw [e1] at c1
  refine ⟨μ3, ?_, (o1.tr b2).tr (c2.mono (fun a j z => by unfold Crun1 at z; unfold Crun2; omega)), c3⟩
  unfold ww_runUpTo run_upTo
  rw [hR.1.2.1, a1, Option.bind_some, b1, Option.bind_some, c1, Option.bind_some]
theorem byN2 : ∀ (f i : Nat) (μ : Mem), i ≤ 5 → 5 - i < f → ∃ μ', mod_byNumbers_2 f (i : Int) μ = some μ' ∧ (∀ a j, a ≠ 80 → μ' a j = μ a j) ∧ (∀ j, j < i → μ' 80 j = μ 80 j) ∧ ∀ j : Nat, i ≤ j → j < 5 → μ' 80 j = (j : Int) := by
  intro f
  induction f with
  | zero => intro i μ h1 h2; omega
  | succ f ih =>
    intro i μ h1 h2
    rw [mod_byNumbers_2.eq_2]
    by_cases z : (5 : Int) ≤ i
    · rw [if_pos z]
      exact ⟨μ, rfl, fun a j _ => rfl, fun j _ => rfl, fun j j1 j2 => by omega⟩
    · obtain ⟨μ', g1, g2, g3, g4⟩ := ih (i + 1) (mset μ 80 i (i : Int)) (by omega) (by omega)
      refine ⟨μ', ?_, fun a j ha => by rw [g2 a j ha, mset_off ha], fun j hj => by rw [g3 j (by omega), mset_ne (by omega)], fun j j1 j2 => ?_⟩
      · rw [if_neg z, stx_ok (by omega), Option.bind_some, wI_id (by omega), Int.toNat_natCast, show (i : Int) + 1 = ((i + 1 : Nat) : Int) by omega, g1]
      · by_cases y : j = i
        · rw [y, g3 i (by omega), mset_same]
        · exact g4 j (by omega) j2
theorem byN_eq (μ : Mem) : ∃ μ', mod_byNumbers μ = some μ' ∧ (∀ a j, a ≠ 80 → μ' a j = μ a j) ∧ OrdM μ' 80 5 idP := by
  obtain ⟨μ', g1, g2, g3, g4⟩ := byN2 BIG 0 μ (by omega) (by have := BIG_gt; omega)
  have e0 : ((0 : Nat) : Int) = 0 := rfl
  rw [e0] at g1
  refine ⟨μ', g1, g2, fun i i1 i2 => ?_⟩
  rw [g4 i.toNat (by omega) (by omega)]; unfold idP; omega
def Rrun2 (a j : Nat) : Prop := (75 ≤ a ∧ a ≤ 80) ∨ (a = 61 ∧ j = 31)
theorem mRun_eq {ν : Mem} {R : Rd} {h : Nat} (hM : MCr ν R) (hO : Okr R) (hh : h ≤ 60) : ∃ ν1 ν', mod_byNumbers ν = some ν1 ∧ mod_runs (h : Int) ν1 = some ν' ∧ Off Rrun2 ν ν' ∧ RM0 ν' R (runP R idP h) ∧ (1 ≤ h → ν' 61 31 = runP R idP h 5 0) := by
  have hb := hO.1
  obtain ⟨ν1, a1, a2, a3⟩ := byN_eq ν
  have hM1 : MCr ν1 R := hM.off (a2 _ _ (by omega)) (fun j _ => a2 _ _ (by omega)) (funext fun j => a2 _ _ (by omega)) (funext fun j => a2 _ _ (by omega)) (funext fun j => a2 _ _ (by omega))
  obtain ⟨ν2, b1, b2, b3, b4⟩ := runs_eq (h := h) hM1 hO (fun i i1 i2 => ⟨i1, i2⟩) (fun i i1 i2 => a3 i i1 (by omega)) hh
  exact ⟨ν1, ν2, a1, b1, fun a j n => by rw [b2 a j (fun z => n (by unfold Rrun at z; unfold Rrun2; omega)), a2 a j (fun z => n (by unfold Rrun2; omega))], b3, b4⟩
