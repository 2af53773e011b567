/-! ===== the reference's hours ===== -/
def inP (R : Rd) (p : Int → Int) : Prop := ∀ i : Int, 0 ≤ i → i < R 0 1 → 0 ≤ p i ∧ p i < R 0 1
def OrdM (μ : Mem) (a : Nat) (n : Int) (p : Int → Int) : Prop := ∀ i : Int, 0 ≤ i → i < n → μ a i.toNat = p i
def RM0 (ν : Mem) (R S : Rd) : Prop := (∀ c : Int, 0 ≤ c → c < R 0 1 → ν 75 c.toNat = S 0 c ∧ ν 76 c.toNat = S 1 c ∧ ν 77 c.toNat = S 2 c ∧ ν 78 c.toNat = S 3 c) ∧ (∀ k : Int, 0 ≤ k → k < 63 → ν 79 k.toNat = S 4 k)
theorem RM.z {ν : Mem} {R S : Rd} (h : RM ν R S) : RM0 ν R S := ⟨h.1, h.2.1⟩
theorem RM0.w {ν : Mem} {R S : Rd} (h : RM0 ν R S) : RM (mset ν 61 31 0) R (uq S 5 0 0) := by
  refine ⟨fun c c1 c2 => ?_, fun k k1 k2 => ?_, ?_⟩
  · rw [mset_off (by omega), mset_off (by omega), mset_off (by omega), mset_off (by omega), uq_ap, if_neg (by omega), uq_ap, if_neg (by omega), uq_ap, if_neg (by omega), uq_ap, if_neg (by omega)]
    exact h.1 c c1 c2
  · rw [mset_off (by omega), uq_ap, if_neg (by omega)]
    exact h.2 k k1 k2
  · rw [mset_same, uq_ap, if_pos ⟨rfl, rfl⟩]
theorem RV.w {R S : Rd} {t v : Int} (h : RV R S t) : RV R (uq S 5 0 v) t := by
  refine ⟨fun c c1 c2 => ?_, fun k k1 k2 => ?_, ?_⟩
  · rw [uq_ap, if_neg (by omega), uq_ap, if_neg (by omega), uq_ap, if_neg (by omega), uq_ap, if_neg (by omega)]
    exact h.1 c c1 c2
  · rw [uq_ap, if_neg (by omega)]; exact h.2.1 k k1 k2
  · rw [uq_ap, if_neg (by omega)]; exact h.2.2
theorem RV.le {R S : Rd} {t t' : Int} (ht : t ≤ t') (hV : RV R S t) : RV R S t' := ⟨fun d d1 d2 => by
    obtain ⟨a1, a2, a3, a4, a5⟩ := hV.1 d d1 d2
    exact ⟨a1, ⟨a2.1, by omega⟩, ⟨a3.1, by omega⟩, a4, a5⟩, hV.2.1, hV.2.2.1, by have := hV.2.2.2; omega⟩
theorem RV.row {R S : Rd} {p : Int → Int} {h t : Int} (hO : Okr R) (hp : inP R p) (hh : 1 ≤ h ∧ h ≤ 60) (ht : 0 ≤ t) (hV : RV R S t) : ∀ i : Nat, (i : Int) ≤ R 0 1 → RV R (rowP R h p i S) (t + i) := by
  intro i
  induction i with
  | zero => intro _; simpa [rowP] using hV
  | succ i ih =>
    intro hi
    have h1 := RV.move (h := h) (c := p i) hO (ih (by omega)) (hp i (by omega) (by omega)) hh (by omega)
    rw [rowP, show t + ((i + 1 : Nat) : Int) = t + i + 1 by omega]
    exact h1
theorem thaw_ap (R : Rd) (h : Int) (S : Rd) (b : Nat) (j : Int) : thawP R h S b j = if R 8 h = 1 ∧ b = 4 ∧ 0 < S 4 j then S 4 j - 1 else S b j := by
  unfold thawP
  by_cases z : R 8 h = 1
  · rw [if_pos z]
    show (if b = 4 ∧ 0 < S 4 j then S 4 j - 1 else S b j) = _
    by_cases y : b = 4 ∧ 0 < S 4 j
    · rw [if_pos y, if_pos ⟨z, y⟩]
    · rw [if_neg y, if_neg (fun q => y q.2)]
  · rw [if_neg z, if_neg (fun q => z q.1)]
theorem thaw_n (R : Rd) (h : Int) (S : Rd) (b : Nat) (j : Int) (hb : b ≠ 4) : thawP R h S b j = S b j := by
  rw [thaw_ap, if_neg (fun q => hb q.2.1)]
theorem RV.thaw {R S : Rd} {h t : Int} (hV : RV R S t) : RV R (thawP R h S) t := by
  refine ⟨fun c c1 c2 => ?_, fun k k1 k2 => ?_, ?_⟩
  · rw [thaw_n _ _ _ 0 _ (by omega), thaw_n _ _ _ 1 _ (by omega), thaw_n _ _ _ 2 _ (by omega), thaw_n _ _ _ 3 _ (by omega)]; exact hV.1 c c1 c2
  · have := hV.2.1 k k1 k2
    rw [thaw_ap]
    split <;> omega
  · rw [thaw_n _ _ _ 6 _ (by omega)]; exact hV.2.2
theorem RV.hour {R S : Rd} {p : Int → Int} {h t : Int} (hO : Okr R) (hp : inP R p) (hh : 1 ≤ h ∧ h ≤ 60) (ht : 0 ≤ t) (hV : RV R S t) : RV R (hourP R p h S) (t + 5) := by
  unfold hourP
  have hb := hO.1
  exact ((RV.row hO hp hh ht hV.w (R 0 1).toNat (by omega)).le (by omega)).thaw
theorem RV.start {R : Rd} (hO : Okr R) : RV R (startP R) 0 := by
  unfold startP
  refine ⟨fun c c1 c2 => ?_, fun k k1 k2 => ?_, ?_⟩
  · have hpc := hO.2.2.2.2.2.1 c c1 c2
    simp
    omega
  · have := hO.2.2.2.2.1 k k1 k2
    simp
    omega
  · simp
theorem RV.run {R : Rd} {p : Int → Int} (hO : Okr R) (hp : inP R p) : ∀ h : Nat, h ≤ 60 → RV R (runP R p h) (5 * h) := by
  intro h
  induction h with
  | zero => intro _; exact RV.start hO
  | succ h ih =>
    intro hh
    have := RV.hour (h := ((h + 1 : Nat) : Int)) hO hp (by omega) (by omega) (ih (by omega))
    rw [runP, show (5 * ((h + 1 : Nat) : Int)) = 5 * (h : Int) + 5 by omega]
    exact this
theorem row_eq {R S : Rd} {p : Int → Int} {h t : Int} (hO : Okr R) (hp : inP R p) (hh : 1 ≤ h ∧ h ≤ 60) (ht : 0 ≤ t ∧ t ≤ 1000) (hV : RV R S t) : ∀ (m f i : Nat) (ν : Mem), m < f → (i : Int) + m = R 0 1 → MCr ν R → OrdM ν 80 (R 0 1) p → RM ν R (rowP R h p i S) → ∃ ν', mod_goesHour_7 f h (i : Int) ν = mod_goesHour_36 BIG h 0 ν' ∧ Off Rrun ν ν' ∧ RM ν' R (rowP R h p (R 0 1).toNat S) := by
  have hb := hO.1
  intro m
  induction m with
  | zero =>
    intro f i ν hf hi hM hP hS
    obtain ⟨f, rfl⟩ : ∃ g, f = g + 1 := ⟨f - 1, by omega⟩
    refine ⟨ν, ?_, Off.rf, ?_⟩
    · rw [mod_goesHour_7.eq_2, if_pos (by rw [hM.1.2]; omega)]
    · rw [show (R 0 1).toNat = i by omega]; exact hS
  | succ m ih =>
    intro f i ν hf hi hM hP hS
    obtain ⟨f, rfl⟩ : ∃ g, f = g + 1 := ⟨f - 1, by omega⟩
    obtain ⟨ν1, g1, g2, g3⟩ := goes_eq (c := p i) hM hO hS (RV.row hO hp hh ht.1 hV i (by omega)) (by omega) (hp i (by omega) (by omega)) hh
    obtain ⟨ν2, k1, k2, k3⟩ := ih f (i + 1) ν1 (by omega) (by omega) (hM.keep g2) (fun j j1 j2 => by rw [g2 _ _ (by unfold Rrun; omega)]; exact hP j j1 j2) g3
    refine ⟨ν2, ?_, g2.tr k2, k3⟩
    rw [mod_goesHour_7.eq_2, if_neg (by rw [hM.1.2]; omega), ld_ok (by omega), Option.bind_some, hP i (by omega) (by omega), g1, Option.bind_some, wI_id (by omega), show (i : Int) + 1 = ((i + 1 : Nat) : Int) by omega, k1]
def thM (ν : Mem) (k : Nat) : Mem := fun a j => if a = 79 ∧ k ≤ j ∧ j < 63 ∧ 0 < ν 79 j then ν 79 j - 1 else ν a j
theorem thM_ap (ν : Mem) (k a j : Nat) : thM ν k a j = if a = 79 ∧ k ≤ j ∧ j < 63 ∧ 0 < ν 79 j then ν 79 j - 1 else ν a j := rfl
theorem thaw_loop {h : Int} {R : Rd} (hh : 1 ≤ h ∧ h ≤ 60) (h8 : R 8 h = 1) : ∀ (f k : Nat) (ν : Mem), k ≤ 63 → 63 - k < f → MCr ν R → (∀ j, j < 63 → 0 ≤ ν 79 j ∧ ν 79 j ≤ 99) → mod_goesHour_36 f h (k : Int) ν = some (thM ν k) := by
  intro f
  induction f with
  | zero => intro k ν h1 h2; omega
  | succ f ih =>
    intro k ν h1 h2 hM hd
    rw [mod_goesHour_36.eq_2]
    by_cases z : (63 : Int) ≤ k
    · rw [if_pos z]
      congr 1
      funext a j
      rw [thM_ap, if_neg (by omega)]
    · have e8 : ν 62 (99 + h).toNat = 1 := by
        have := hM.2.2.2.2.2.2 h (by omega) (by omega)
        rw [show (99 + h).toNat = 99 + h.toNat by omega, this, h8]
      have hdk := hd k (by omega)
      have st : ∀ s : Int, (s = 1 ∧ 0 < ν 79 k ∨ s = 0 ∧ ν 79 k = 0) → mod_goesHour_76 (mod_goesHour_36 f) h (k : Int) (k : Int) (ν 79 k) s ν = some (thM ν k) := fun s hs => by
        unfold mod_goesHour_76
        rw [stx_ok (by omega), Option.bind_some, wI_id (x := ν 79 k - s) (by omega), wI_id (by omega), show (k : Int) + 1 = ((k + 1 : Nat) : Int) by omega, ih (k + 1) _ (by omega) (by omega) (hM.set (by omega)) (fun j hj => by
          rw [mset_ap]
          by_cases y : j = k
          · rw [if_pos ⟨rfl, by omega⟩]; omega
          · rw [if_neg (by omega)]; exact hd j hj)]
        congr 1
        funext a j
        rw [thM_ap, thM_ap, Int.toNat_natCast, mset_ap, mset_ap]
        by_cases y : a = 79 ∧ j = k
        · rw [if_neg (show ¬ (a = 79 ∧ k + 1 ≤ j ∧ _) by omega), if_pos y]
          rcases hs with ⟨s1, s2⟩ | ⟨s1, s2⟩
          · rw [if_pos ⟨y.1, by omega, by omega, by rw [y.2]; exact s2⟩, s1, y.2]
          · rw [if_neg (by rw [y.2]; omega), s1, y.1, y.2]; omega
        · rw [if_neg y]
          by_cases x : a = 79 ∧ k + 1 ≤ j ∧ j < 63
          · rw [if_neg (show ¬ ((79 : Nat) = 79 ∧ j = k) by omega)]
            by_cases u : 0 < ν 79 j
            · rw [if_pos ⟨x.1, x.2.1, x.2.2, u⟩, if_pos ⟨x.1, by omega, x.2.2, u⟩]
            · rw [if_neg (fun q => u q.2.2.2), if_neg (fun q => u q.2.2.2)]
          · rw [if_neg (fun q => x ⟨q.1, q.2.1, q.2.2.1⟩), if_neg (fun q => by
              have : j ≠ k := fun e => y ⟨q.1, e⟩
              exact x ⟨q.1, by omega, q.2.2.1⟩)]
      rw [if_neg z, wI_id (by omega), ld_ok (by omega), Option.bind_some, e8, if_pos rfl, ld_ok (by omega), Option.bind_some, Option.bind_some, Int.toNat_natCast]
      by_cases y : ν 79 k ≤ 0
      · rw [if_pos y]; exact st 0 (Or.inr ⟨rfl, by omega⟩)
      · rw [if_neg y]; exact st 1 (Or.inl ⟨rfl, by omega⟩)
theorem thaw_eq {ν : Mem} {R S : Rd} {h t : Int} (hh : 1 ≤ h ∧ h ≤ 60) (hM : MCr ν R) (hV : RV R S t) (hS : RM ν R S) : ∃ ν', mod_goesHour_36 BIG h 0 ν = some ν' ∧ Off Rrun ν ν' ∧ RM ν' R (thawP R h S) := by
  by_cases z : R 8 h = 1
  · have hl := thaw_loop hh z BIG 0 ν (by omega) (by have := BIG_gt; omega) hM (fun j hj => by
      have h1 := hS.2.1 (j : Int) (by omega) (by omega)
      rw [Int.toNat_natCast] at h1
      rw [h1]; exact hV.2.1 _ (by omega) (by omega))
    refine ⟨_, hl, fun a j n => ?_, fun c c1 c2 => ?_, fun k k1 k2 => ?_, ?_⟩
    · rw [thM_ap, if_neg (fun q => n (by unfold Rrun; omega))]
    · rw [thaw_n _ _ _ 0 _ (by omega), thaw_n _ _ _ 1 _ (by omega), thaw_n _ _ _ 2 _ (by omega), thaw_n _ _ _ 3 _ (by omega), thM_ap, if_neg (by omega), thM_ap, if_neg (by omega), thM_ap, if_neg (by omega), thM_ap, if_neg (by omega)]
      exact hS.1 c c1 c2
    · rw [thM_ap, thaw_ap, hS.2.1 k k1 k2]
      by_cases y : 0 < S 4 k
      · rw [if_pos ⟨rfl, by omega, by omega, y⟩, if_pos ⟨z, rfl, y⟩]
      · rw [if_neg (fun q => y q.2.2.2), if_neg (fun q => y q.2.2)]
    · rw [thM_ap, if_neg (by omega), thaw_n _ _ _ 5 _ (by omega)]
      exact hS.2.2
  · refine ⟨ν, ?_, Off.rf, ?_⟩
    · obtain ⟨f, hf⟩ := BIG8
      have := hM.2.2.2.2.2.2 h (by omega) (by omega)
      rw [hf, mod_goesHour_36.eq_2, if_neg (by omega), wI_id (by omega), ld_ok (by omega), Option.bind_some, show (99 + h).toNat = 99 + h.toNat by omega, this, if_neg z]
    · unfold thawP; rw [if_neg z]; exact hS
theorem ghour_eq {ν : Mem} {R S : Rd} {p : Int → Int} {h t : Int} (hM : MCr ν R) (hO : Okr R) (hp : inP R p) (hP : OrdM ν 80 (R 0 1) p) (hh : 1 ≤ h ∧ h ≤ 60) (ht : 0 ≤ t ∧ t ≤ 1000) (hV : RV R S t) (hS : RM0 ν R S) : ∃ ν', mod_goesHour h ν = some ν' ∧ Off Rrun ν ν' ∧ RM ν' R (hourP R p h S) := by
  have hb := hO.1
  have h0 : Off Rrun ν (mset ν 61 31 0) := Off.rf.set (by unfold Rrun; omega)
  obtain ⟨ν1, a1, a2, a3⟩ := row_eq hO hp hh ht (hV.w (v := 0)) (R 0 1).toNat BIG 0 (mset ν 61 31 0) (by have := BIG_gt; omega) (by omega) (hM.keep h0) (fun j j1 j2 => by rw [h0 _ _ (by unfold Rrun; omega)]; exact hP j j1 j2) hS.w
  obtain ⟨ν2, b1, b2, b3⟩ := thaw_eq hh ((hM.keep h0).keep a2) (RV.row hO hp hh ht.1 (hV.w (v := 0)) (R 0 1).toNat (by omega)) a3
  refine ⟨ν2, ?_, (h0.tr a2).tr b2, b3⟩
  have e0 : ((0 : Nat) : Int) = 0 := rfl
  rw [e0] at a1
  unfold mod_goesHour bnd
  dsimp only
  rw [a1, b1]
theorem start54 {R : Rd} : ∀ (f k : Nat) (ν : Mem), k ≤ 63 → 63 - k < f → MCr ν R → ∃ ν', mod_startRun_54 f (k : Int) ν = some ν' ∧ Off Rrun ν ν' ∧ (∀ a, a ≠ 79 → ν' a = ν a) ∧ (∀ j, j < k → ν' 79 j = ν 79 j) ∧ ∀ j : Nat, k ≤ j → j < 63 → ν' 79 j = R 5 (j : Int) := by
  intro f
  induction f with
  | zero => intro k ν h1 h2; omega
  | succ f ih =>
    intro k ν h1 h2 hM
    rw [mod_startRun_54.eq_2]
    by_cases z : (63 : Int) ≤ k
    · rw [if_pos z]
      exact ⟨ν, rfl, Off.rf, fun a _ => rfl, fun j _ => rfl, fun j j1 j2 => by omega⟩
    · have e := hM.2.2.2.2.1 (k : Int) (by omega) (by omega)
      obtain ⟨ν', g1, g2, g3, g4, g5⟩ := ih (k + 1) (mset ν 79 k (R 5 (k : Int))) (by omega) (by omega) (hM.set (by omega))
      refine ⟨ν', ?_, (Off.rf.set (by unfold Rrun; omega)).tr g2, fun a ha => by rw [g3 a ha, mset_off ha], fun j hj => by rw [g4 j (by omega), mset_ne (by omega)], fun j j1 j2 => ?_⟩
      · rw [if_neg z, wI_id (by omega), ld_ok (by omega), Option.bind_some, show (36 + (k : Int)).toNat = 36 + (k : Int).toNat by omega, e, stx_ok (by omega), Option.bind_some, wI_id (by omega), Int.toNat_natCast, show (k : Int) + 1 = ((k + 1 : Nat) : Int) by omega, g1]
      · by_cases y : j = k
        · rw [y, g4 k (by omega), mset_same]
        · exact g5 j (by omega) j2
theorem start2 {R : Rd} (hO : Okr R) : ∀ (m f i : Nat) (ν : Mem), m < f → (i : Int) + m = R 0 1 → MCr ν R → (∀ c : Int, 0 ≤ c → c < i → ν 75 c.toNat = pt R c 4 ∧ ν 76 c.toNat = 0 ∧ ν 77 c.toNat = 0 ∧ ν 78 c.toNat = -4) → ∃ ν', mod_startRun_2 f (i : Int) ν = some ν' ∧ Off Rrun ν ν' ∧ RM0 ν' R (startP R) := by
  have hb := hO.1
  intro m
  induction m with
  | zero =>
    intro f i ν hf hi hM hS
    obtain ⟨f, rfl⟩ : ∃ g, f = g + 1 := ⟨f - 1, by omega⟩
    obtain ⟨ν', g1, g2, g3, g4, g5⟩ := start54 (R := R) BIG 0 ν (by omega) (by have := BIG_gt; omega) hM
    refine ⟨ν', ?_, g2, fun c c1 c2 => ?_, fun k k1 k2 => ?_⟩
    · rw [mod_startRun_2.eq_2, if_pos (by rw [hM.1.2]; omega)]; exact g1
    · rw [g3 _ (by omega), g3 _ (by omega), g3 _ (by omega), g3 _ (by omega)]
      have := hS c c1 (by omega)
      unfold startP
      simp
      exact this
    · have := g5 k.toNat (by omega) (by omega)
      rw [this, show ((k.toNat : Nat) : Int) = k by omega]
      unfold startP
      simp
  | succ m ih =>
    intro f i ν hf hi hM hS
    obtain ⟨f, rfl⟩ : ∃ g, f = g + 1 := ⟨f - 1, by omega⟩
    obtain ⟨ν', g1, g2, g3⟩ := ih f (i + 1) (mset (mset (mset (mset ν 75 i (pt R i 4)) 76 i 0) 77 i 0) 78 i (-4)) (by omega) (by omega) ((((hM.set (by omega)).set (by omega)).set (by omega)).set (by omega)) (fun c c1 c2 => by
      by_cases y : c = (i : Int)
      · subst y
        rw [Int.toNat_natCast, mset_off (by omega), mset_off (by omega), mset_off (by omega), mset_same, mset_off (by omega), mset_off (by omega), mset_same, mset_off (by omega), mset_same, mset_same]
        exact ⟨rfl, rfl, rfl, rfl⟩
      · rw [mset_off (by omega), mset_off (by omega), mset_off (by omega), mset_ne (by omega), mset_off (by omega), mset_off (by omega), mset_ne (by omega), mset_off (by omega), mset_off (by omega), mset_ne (by omega), mset_off (by omega), mset_off (by omega), mset_ne (by omega), mset_off (by omega), mset_off (by omega), mset_off (by omega)]
        exact hS c c1 (by omega))
    refine ⟨ν', ?_, ((((Off.rf.set (by unfold Rrun; omega)).set (by unfold Rrun; omega)).set (by unfold Rrun; omega)).set (by unfold Rrun; omega)).tr g2, g3⟩
    rw [mod_startRun_2.eq_2, if_neg (by rw [hM.1.2]; omega), mof hM (by omega) (by omega), Option.bind_some, stx_ok (by omega), Option.bind_some, stx_ok (by omega), Option.bind_some, stx_ok (by omega), Option.bind_some, stx_ok (by omega), Option.bind_some, wI_id (by omega), Int.toNat_natCast, show (i : Int) + 1 = ((i + 1 : Nat) : Int) by omega, g1]
theorem runs6 {R : Rd} {p : Int → Int} (hO : Okr R) (hp : inP R p) {h : Nat} (hh : h ≤ 60) : ∀ (m f i : Nat) (ν : Mem), m < f → i + m = h → MCr ν R → OrdM ν 80 (R 0 1) p → RM0 ν R (runP R p i) → (1 ≤ i → ν 61 31 = runP R p i 5 0) → ∃ ν', mod_runs_6 f (h : Int) ((i + 1 : Nat) : Int) ν = some ν' ∧ Off Rrun ν ν' ∧ RM0 ν' R (runP R p h) ∧ (1 ≤ h → ν' 61 31 = runP R p h 5 0) := by
  intro m
  induction m with
  | zero =>
    intro f i ν hf hi hM hP hS hw
    obtain ⟨f, rfl⟩ : ∃ g, f = g + 1 := ⟨f - 1, by omega⟩
    have : i = h := by omega
    subst this
    refine ⟨ν, ?_, Off.rf, hS, hw⟩
    rw [mod_runs_6.eq_2, if_pos (by omega)]
  | succ m ih =>
    intro f i ν hf hi hM hP hS hw
    obtain ⟨f, rfl⟩ : ∃ g, f = g + 1 := ⟨f - 1, by omega⟩
    obtain ⟨ν1, a1, a2, a3⟩ := ghour_eq (h := ((i + 1 : Nat) : Int)) hM hO hp hP (by omega) (t := 5 * i) (by omega) (RV.run hO hp i (by omega)) hS
    obtain ⟨ν2, b1, b2, b3, b4⟩ := ih f (i + 1) ν1 (by omega) (by omega) (hM.keep a2) (fun j j1 j2 => by rw [a2 _ _ (by unfold Rrun; omega)]; exact hP j j1 j2) a3.z (fun _ => a3.2.2)
    refine ⟨ν2, ?_, a2.tr b2, b3, b4⟩
    rw [mod_runs_6.eq_2, if_neg (by omega), a1, Option.bind_some, wI_id (by omega), show ((i + 1 : Nat) : Int) + 1 = ((i + 1 + 1 : Nat) : Int) by omega, b1]
theorem runs_eq {ν : Mem} {R : Rd} {p : Int → Int} {h : Nat} (hM : MCr ν R) (hO : Okr R) (hp : inP R p) (hP : OrdM ν 80 (R 0 1) p) (hh : h ≤ 60) : ∃ ν', mod_runs (h : Int) ν = some ν' ∧ Off Rrun ν ν' ∧ RM0 ν' R (runP R p h) ∧ (1 ≤ h → ν' 61 31 = runP R p h 5 0) := by
  have hb := hO.1
  obtain ⟨ν1, a1, a2, a3⟩ := start2 hO (R 0 1).toNat BIG 0 ν (by have := BIG_gt; omega) (by omega) hM (fun c c1 c2 => by omega)
  obtain ⟨ν2, b1, b2, b3, b4⟩ := runs6 hO hp hh h BIG 0 ν1 (by have := BIG_gt; omega) (by omega) (hM.keep a2) (fun j j1 j2 => by rw [a2 _ _ (by unfold Rrun; omega)]; exact hP j j1 j2) a3 (fun q => by omega)
  refine ⟨ν2, ?_, a2.tr b2, b3, b4⟩
  have e0 : ((0 : Nat) : Int) = 0 := rfl
  have e1 : ((0 + 1 : Nat) : Int) = 1 := rfl
  rw [e0] at a1
  rw [e1] at b1
  unfold mod_runs mod_startRun
  rw [a1, Option.bind_some, b1]
