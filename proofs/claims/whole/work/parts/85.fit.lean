/-! ===== which orders fit ===== -/
def makesP (R : Rd) (c y : Int) : Prop := pt R c 0 ≠ 2 ∧ (if pt R c 4 < pt R c 5 then pt R c 4 < y ∧ y ≤ pt R c 5 else pt R c 5 ≤ y ∧ y < pt R c 4)
noncomputable def lastP (R : Rd) (a : Int → Int) (y : Int) : Nat → Int
  | 0 => -4
  | k + 1 => @ite _ (makesP R (a (k : Int)) y) (Classical.propDecidable _) (a (k : Int)) (lastP R a y k)
theorem lastP_in {R : Rd} {a : Int → Int} {y : Int} {N : Nat} (h : ∀ i : Int, 0 ≤ i → i < N → 0 ≤ a i ∧ a i < N) : ∀ k : Nat, k ≤ N → lastP R a y k = -4 ∨ 0 ≤ lastP R a y k ∧ lastP R a y k < N := by
  intro k
  induction k with
  | zero => intro _; exact Or.inl rfl
  | succ k ih =>
    intro hk
    rw [lastP]
    split
    · exact Or.inr (h k (by omega) (by omega))
    · exact ih (by omega)
def fitsP (R : Rd) (a : Int → Int) : Prop := ∀ i : Int, 0 ≤ i → i < R 0 2 → lastP R a (R 9 i) (R 0 1).toNat ≠ -4 ∧ pt R (lastP R a (R 9 i) (R 0 1).toNat) 1 = R 10 i
noncomputable def fitS (R : Rd) (y : Int) (p : List Int) (s : Int × List Int × Int) : Int × List Int × Int := @ite _ (fitsP R (ofL p)) (Classical.propDecidable _) (s.1 + 1, (if s.1 = 0 then p else s.2.1), (if lastP R (ofL p) y (R 0 1).toNat < 0 then s.2.2 else iOr s.2.2 (iShl 1 (lastP R (ofL p) y (R 0 1).toNat)))) s
noncomputable def fitF (R : Rd) (n y : Int) : Nat → List Int → Int × List Int × Int → Int × List Int × Int
  | 0, _, s => s
  | f + 1, p, s => if lastI n (ofL p) < 0 then fitS R y p s else fitF R n y f (stepL n p) (fitS R y p s)
/-- the class's tracks and parts alone -/
theorem cmakes {μ : Mem} {R : Rd} {c y : Int} (hR : RC μ 1 R) (hO : Ok R) (hc : 0 ≤ c ∧ c < R 0 1) : (makesP R c y → roa_makesTrack 1 μ c y = some 1) ∧ (¬ makesP R c y → roa_makesTrack 1 μ c y = some 0) := by
  have hb := hO.r.1
  unfold roa_makesTrack makesP
  rw [cpart hR.r (by omega) (by omega), Option.bind_some, cpart hR.r (by omega) (by omega), Option.bind_some, cpart hR.r (by omega) (by omega), Option.bind_some]
  generalize pt R c 0 = k0
  generalize pt R c 4 = k4
  generalize pt R c 5 = k5
  clear hR hO hb hc
  constructor
  · rintro ⟨h1, h2⟩
    rw [if_neg h1]
    by_cases z : k4 < k5
    · rw [if_pos z] at h2
      rw [if_neg (by omega), if_neg (by omega), if_neg (by omega)]
    · rw [if_neg z] at h2
      rw [if_pos (by omega), if_neg (by omega), if_neg (by omega)]
  · intro h
    by_cases h1 : k0 = 2
    · rw [if_pos h1]
    · rw [if_neg h1]
      have h2 : ¬ (if k4 < k5 then k4 < y ∧ y ≤ k5 else k5 ≤ y ∧ y < k4) := fun q => h ⟨h1, q⟩
      by_cases z : k4 < k5
      · rw [if_pos z] at h2
        rw [if_neg (by omega)]
        by_cases x : y ≤ k4
        · rw [if_pos x]
        · rw [if_neg x, if_pos (by omega)]
      · rw [if_neg z] at h2
        rw [if_pos (by omega)]
        by_cases x : k4 ≤ y
        · rw [if_pos x]
        · rw [if_neg x, if_pos (by omega)]
theorem clast10 {μ : Mem} {R : Rd} {a : Int → Int} {y : Int} (hR : RC μ 1 R) (hO : Ok R) (hP : OrdM μ 55 5 a) (ha : inP R a) : ∀ (k f : Nat), k < f → (k : Int) ≤ R 0 1 → fit_lastIn_10 μ f y ((k : Int) - 1) = some (lastP R a y k) := by
  have hb := hO.r.1
  intro k
  induction k with
  | zero =>
    intro f hf hk
    obtain ⟨f, rfl⟩ : ∃ z, f = z + 1 := ⟨f - 1, by omega⟩
    rw [fit_lastIn_10.eq_2, if_pos (by omega)]; rfl
  | succ k ih =>
    intro f hf hk
    obtain ⟨f, rfl⟩ : ∃ z, f = z + 1 := ⟨f - 1, by omega⟩
    have hm := cmakes (c := a k) (y := y) hR hO (ha k (by omega) (by omega))
    rw [fit_lastIn_10.eq_2, if_neg (by omega), show ((k + 1 : Nat) : Int) - 1 = (k : Int) by omega, at_in (by omega), Option.bind_some, Option.bind_some, hP k (by omega) (by omega), lastP]
    by_cases z : makesP R (a k) y
    · rw [hm.1 z, Option.bind_some, if_neg (by omega), if_pos z]
    · rw [hm.2 z, Option.bind_some, if_pos rfl, if_neg z, wI_id (by omega), show (k : Int) + -1 = (k : Int) - 1 by omega, ih f (by omega) (by omega)]
theorem clast {μ : Mem} {R : Rd} {a : Int → Int} {y : Int} (hR : RC μ 1 R) (hO : Ok R) (hP : OrdM μ 55 5 a) (h54 : μ 54 1 = R 0 1) (ha : inP R a) : fit_lastIn μ y = some (lastP R a y (R 0 1).toNat) := by
  have hb := hO.r.1
  have h := clast10 (y := y) hR hO hP ha (R 0 1).toNat BIG (by have := BIG_gt; omega) (by omega)
  rw [fit_lastIn.eq_1, bnd.eq_1, h54, wI_id (by omega)]
  rw [show (((R 0 1).toNat : Nat) : Int) = R 0 1 by omega] at h
  exact h
theorem cfits2 {μ : Mem} {R : Rd} {a : Int → Int} (hR : RC μ 1 R) (hO : Ok R) (hP : OrdM μ 55 5 a) (h54 : μ 54 1 = R 0 1) (ha : inP R a) : ∀ (m f : Nat) (i : Int), m < f → 0 ≤ i → i + m = R 0 2 → ((∀ j : Int, i ≤ j → j < R 0 2 → lastP R a (R 9 j) (R 0 1).toNat ≠ -4 ∧ pt R (lastP R a (R 9 j) (R 0 1).toNat) 1 = R 10 j) → fit_isFitting_2 μ f i = some 1) ∧ (¬ (∀ j : Int, i ≤ j → j < R 0 2 → lastP R a (R 9 j) (R 0 1).toNat ≠ -4 ∧ pt R (lastP R a (R 9 j) (R 0 1).toNat) 1 = R 10 j) → fit_isFitting_2 μ f i = some 0) := by
  have hb := hO.1
  intro m
  induction m with
  | zero =>
    intro f i hf h0 he
    obtain ⟨f, rfl⟩ : ∃ z, f = z + 1 := ⟨f - 1, by omega⟩
    rw [fit_isFitting_2.eq_2, hR.1.2.2, if_pos (by omega)]
    exact ⟨fun _ => rfl, fun h => absurd (fun j j1 j2 => by omega) h⟩
  | succ m ih =>
    intro f i hf h0 he
    obtain ⟨f, rfl⟩ : ∃ z, f = z + 1 := ⟨f - 1, by omega⟩
    obtain ⟨i1, i2⟩ := ih f (i + 1) (by omega) (by omega) (by omega)
    have ht := hR.2.2.2.2.2.2.2.2.2 i h0 (by omega)
    have htb := hO.2.2.2.2.2.2.2.2.2 i h0 (by omega)
    have et : roa_trackAt 1 μ i = some (3 * R 9 i + R 10 i) := by
      unfold roa_trackAt
      rw [at_in (by omega), Option.bind_some, show μ (1 + 7) i.toNat = _ from ht]
    have hl := clast (y := R 9 i) hR hO hP h54 ha
    have hli := lastP_in (R := R) (a := a) (y := R 9 i) (N := (R 0 1).toNat) (fun j j1 j2 => by have := ha j j1 (by omega); omega) (R 0 1).toNat (by omega)
    rw [fit_isFitting_2.eq_2, hR.1.2.2, if_neg (by omega), et, Option.bind_some, iDiv_eq (by omega) (by omega), show (3 * R 9 i + R 10 i) / 3 = R 9 i by omega, hl, Option.bind_some, wI_id (x := i + 1) (by omega)]
    by_cases z1 : lastP R a (R 9 i) (R 0 1).toNat = -4
    · rw [z1, if_pos (by omega)]
      exact ⟨fun h => absurd z1 (h i (by omega) (by omega)).1, fun _ => rfl⟩
    · rw [if_neg (by omega), cpart hR.r (by omega) (by omega), Option.bind_some, Option.bind_some, iRem_eq (by omega) (by omega), show (3 * R 9 i + R 10 i) % 3 = R 10 i by omega]
      by_cases z2 : pt R (lastP R a (R 9 i) (R 0 1).toNat) 1 = R 10 i
      · rw [if_pos z2]
        refine ⟨fun h => i1 (fun j j1 j2 => h j (by omega) j2), fun h => i2 (fun q => h (fun j j1 j2 => ?_))⟩
        by_cases y : j = i
        · rw [y]; exact ⟨z1, z2⟩
        · exact q j (by omega) j2
      · rw [if_neg z2]
        exact ⟨fun h => absurd (h i (by omega) (by omega)).2 z2, fun _ => rfl⟩
theorem cfits {μ : Mem} {R : Rd} {a : Int → Int} (hR : RC μ 1 R) (hO : Ok R) (hP : OrdM μ 55 5 a) (h54 : μ 54 1 = R 0 1) (ha : inP R a) : (fitsP R a → fit_isFitting μ = some 1) ∧ (¬ fitsP R a → fit_isFitting μ = some 0) := by
  have hb := hO.1
  obtain ⟨m, hm⟩ : ∃ m : Nat, (m : Int) = R 0 2 := ⟨(R 0 2).toNat, by omega⟩
  obtain ⟨i1, i2⟩ := cfits2 hR hO hP h54 ha m BIG 0 (by have := BIG_gt; omega) (by omega) (by omega)
  exact ⟨fun h => i1 (fun j j1 j2 => h j j1 j2), fun h => i2 (fun q => h (fun j j1 j2 => q j j1 j2))⟩
/-! ===== the reference's ===== -/
theorem mpart {μ : Mem} {R : Rd} {c k : Int} (H : MC μ 0 R) (hc : 0 ≤ c ∧ c < 5) (hk : 0 ≤ k ∧ k < 7) : mod_of μ c k = some (pt R c k) := by
  rw [of_eq (by omega), H.2.2.2.2.2.2.1 _ (by omega) (by omega)]; rfl
theorem mgoes {μ : Mem} {R : Rd} {c y : Int} (hM : MC μ 0 R) (hO : Ok R) (hc : 0 ≤ c ∧ c < R 0 1) : (makesP R c y → mod_goesTo μ c y = some 1) ∧ (¬ makesP R c y → mod_goesTo μ c y = some 0) := by
  have hb := hO.r.1
  have hpc := hO.2.2.2.2.2.2.1 c hc.1 hc.2
  unfold mod_goesTo makesP
  rw [mpart hM (by omega) (by omega), Option.bind_some, mpart hM (by omega) (by omega), Option.bind_some, mpart hM (by omega) (by omega), Option.bind_some, wI_id (x := pt R c 4 - 1) (by omega), wI_id (x := pt R c 4 + 1) (by omega), in_eq, in_eq]
  generalize pt R c 0 = k0
  generalize pt R c 4 = k4
  generalize pt R c 5 = k5
  clear hM hO hb hc hpc
  constructor
  · rintro ⟨h1, h2⟩
    rw [if_neg h1]
    by_cases z : k4 < k5
    · rw [if_pos z] at h2
      rw [if_neg (by omega), tT (by omega)]
    · rw [if_neg z] at h2
      rw [if_pos (by omega), tT (by omega)]
  · intro h
    by_cases h1 : k0 = 2
    · rw [if_pos h1]
    · rw [if_neg h1]
      have h2 : ¬ (if k4 < k5 then k4 < y ∧ y ≤ k5 else k5 ≤ y ∧ y < k4) := fun q => h ⟨h1, q⟩
      by_cases z : k4 < k5
      · rw [if_pos z] at h2
        rw [if_neg (by omega), tF (by omega)]
      · rw [if_neg z] at h2
        rw [if_pos (by omega), tF (by omega)]
theorem mlast5 {μ : Mem} {R : Rd} {a : Int → Int} {y : Int} (hM : MC μ 0 R) (hO : Ok R) (hP : OrdM μ 80 5 a) (ha : inP R a) : ∀ (m f k : Nat), m < f → (k : Int) + m = R 0 1 → mod_lastTo_5 μ f y (lastP R a y k) (k : Int) = some (lastP R a y (R 0 1).toNat) := by
  have hb := hO.r.1
  intro m
  induction m with
  | zero =>
    intro f k hf hk
    obtain ⟨f, rfl⟩ : ∃ z, f = z + 1 := ⟨f - 1, by omega⟩
    rw [mod_lastTo_5.eq_2, hM.1.2.1, if_pos (by omega), show (R 0 1).toNat = k by omega]
  | succ m ih =>
    intro f k hf hk
    obtain ⟨f, rfl⟩ : ∃ z, f = z + 1 := ⟨f - 1, by omega⟩
    have hm := mgoes (c := a k) (y := y) hM hO (ha k (by omega) (by omega))
    have nx := ih f (k + 1) (by omega) (by omega)
    rw [lastP] at nx
    rw [mod_lastTo_5.eq_2, hM.1.2.1, if_neg (by omega), ld_ok (by omega), Option.bind_some, Option.bind_some, hP k (by omega) (by omega)]
    unfold mod_lastTo_39
    rw [wI_id (by omega), show (k : Int) + 1 = ((k + 1 : Nat) : Int) by omega]
    by_cases z : makesP R (a k) y
    · rw [if_pos z] at nx
      rw [hm.1 z, Option.bind_some, if_neg (by omega), nx]
    · rw [if_neg z] at nx
      rw [hm.2 z, Option.bind_some, if_pos rfl, nx]
theorem mlast {μ : Mem} {R : Rd} {a : Int → Int} {y : Int} (hM : MC μ 0 R) (hO : Ok R) (hP : OrdM μ 80 5 a) (ha : inP R a) : mod_lastTo μ y = some (lastP R a y (R 0 1).toNat) := by
  have hb := hO.r.1
  have h := mlast5 (y := y) hM hO hP ha (R 0 1).toNat BIG 0 (by have := BIG_gt; omega) (by omega)
  have e0 : ((0 : Nat) : Int) = 0 := rfl
  rw [e0] at h
  rw [mod_lastTo.eq_1]
  exact h
theorem mfits4 {μ : Mem} {R : Rd} {a : Int → Int} (hM : MC μ 0 R) (hO : Ok R) (hP : OrdM μ 80 5 a) (ha : inP R a) : ∀ (m f : Nat) (i : Int), m < f → 0 ≤ i → i + m = R 0 2 → mod_isFit_4 μ f 0 i = some 0 ∧ ((∀ j : Int, i ≤ j → j < R 0 2 → lastP R a (R 9 j) (R 0 1).toNat ≠ -4 ∧ pt R (lastP R a (R 9 j) (R 0 1).toNat) 1 = R 10 j) → mod_isFit_4 μ f 1 i = some 1) ∧ (¬ (∀ j : Int, i ≤ j → j < R 0 2 → lastP R a (R 9 j) (R 0 1).toNat ≠ -4 ∧ pt R (lastP R a (R 9 j) (R 0 1).toNat) 1 = R 10 j) → mod_isFit_4 μ f 1 i = some 0) := by
  have hb := hO.1
  have h168 : μ 62 168 = R 0 2 := hM.1.2.2
  intro m
  induction m with
  | zero =>
    intro f i hf h0 he
    obtain ⟨f, rfl⟩ : ∃ z, f = z + 1 := ⟨f - 1, by omega⟩
    rw [mod_isFit_4.eq_2, mod_isFit_4.eq_2, h168, if_pos (by omega), if_pos (by omega), zN_0, zN_1]
    exact ⟨rfl, fun _ => rfl, fun h => absurd (fun j j1 j2 => by omega) h⟩
  | succ m ih =>
    intro f i hf h0 he
    obtain ⟨f, rfl⟩ : ∃ z, f = z + 1 := ⟨f - 1, by omega⟩
    obtain ⟨i0, i1, i2⟩ := ih f (i + 1) (by omega) (by omega) (by omega)
    have ht := hM.2.2.2.2.2.2.2.2.2 i h0 (by omega)
    have hl := mlast (y := R 9 i) hM hO hP ha
    have hli := lastP_in (R := R) (a := a) (y := R 9 i) (N := (R 0 1).toNat) (fun j j1 j2 => by have := ha j j1 (by omega); omega) (R 0 1).toNat (by omega)
    have e1 : ld μ 62 555 (wI (169 + wI (2 * i))) = some (R 9 i) := by
      rw [wI_id (x := 2 * i) (by omega), wI_id (by omega), ld_ok (by omega), show (169 + 2 * i).toNat = 0 + 169 + 2 * i.toNat by omega, ht.1]
    have e2 : ld μ 62 555 (wI (wI (169 + wI (2 * i)) + 1)) = some (R 10 i) := by
      rw [wI_id (x := 2 * i) (by omega), wI_id (x := 169 + 2 * i) (by omega), wI_id (by omega), ld_ok (by omega), show (169 + 2 * i + 1).toNat = 0 + 170 + 2 * i.toNat by omega, ht.2]
    have s : ∀ x : Int, mod_isFit_4 μ (f + 1) x i = if x = 0 then mod_isFit_4 μ f 0 (i + 1) else (if lastP R a (R 9 i) (R 0 1).toNat = -4 then mod_isFit_4 μ f 0 (i + 1) else if pt R (lastP R a (R 9 i) (R 0 1).toNat) 1 = R 10 i then mod_isFit_4 μ f 1 (i + 1) else mod_isFit_4 μ f 0 (i + 1)) := fun x => by
      rw [mod_isFit_4.eq_2, h168, if_neg (by omega), e1, Option.bind_some, hl, Option.bind_some, e2]
      unfold mod_isFit_71
      rw [wI_id (by omega)]
      by_cases z0 : x = 0
      · rw [if_pos z0, if_pos z0]
      · rw [if_neg z0, if_neg z0]
        by_cases z1 : lastP R a (R 9 i) (R 0 1).toNat = -4
        · rw [if_pos z1, if_pos z1]
        · rw [if_neg z1, if_neg z1, mpart hM (by omega) (by omega), Option.bind_some, Option.bind_some]
    rw [s, s, if_pos rfl, if_neg (by omega)]
    refine ⟨i0, ?_, ?_⟩
    · intro h
      have hi := h i (by omega) (by omega)
      rw [if_neg hi.1, if_pos hi.2]
      exact i1 (fun j j1 j2 => h j (by omega) j2)
    · intro h
      by_cases z1 : lastP R a (R 9 i) (R 0 1).toNat = -4
      · rw [if_pos z1]; exact i0
      · rw [if_neg z1]
        by_cases z2 : pt R (lastP R a (R 9 i) (R 0 1).toNat) 1 = R 10 i
        · rw [if_pos z2]
          refine i2 (fun q => h (fun j j1 j2 => ?_))
          by_cases y : j = i
          · rw [y]; exact ⟨z1, z2⟩
          · exact q j (by omega) j2
        · rw [if_neg z2]; exact i0
theorem mfits {μ : Mem} {R : Rd} {a : Int → Int} (hM : MC μ 0 R) (hO : Ok R) (hP : OrdM μ 80 5 a) (ha : inP R a) : (fitsP R a → mod_isFit μ = some 1) ∧ (¬ fitsP R a → mod_isFit μ = some 0) := by
  have hb := hO.1
  obtain ⟨m, hm⟩ : ∃ m : Nat, (m : Int) = R 0 2 := ⟨(R 0 2).toNat, by omega⟩
  obtain ⟨i0, i1, i2⟩ := mfits4 hM hO hP ha m BIG 0 (by have := BIG_gt; omega) (by omega) (by omega)
  rw [mod_isFit.eq_1]
  exact ⟨fun h => i1 (fun j j1 j2 => h j j1 j2), fun h => i2 (fun q => h (fun j j1 j2 => q j j1 j2))⟩
