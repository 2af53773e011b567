/-! ===== fill ===== -/
theorem fillC_st {k5 : Nat} {μ : Mem} {y m w : Int} (hy : 0 ≤ y ∧ y ≤ 20) (hw : 0 ≤ w ∧ w < 3) : ww_fill_24 (k5 + 1) y m w μ = ww_fill_24 k5 y (iMax m (μ 5 (3 * y + w).toNat)) (w + 1) (mset μ 5 (3 * y + w).toNat 0) := by
  rw [ww_fill_24.eq_2, if_neg (by omega), rut_eq (by omega), Option.bind_some, swap_in (by omega), Option.bind_some, wI_id (by omega)]; rfl
theorem fillM_st {k5 : Nat} {μ : Mem} {y m w : Int} (hy : 0 ≤ y ∧ y ≤ 20) (hw : 0 ≤ w ∧ w < 3) : mod_fills_4 (k5 + 1) y m w μ = mod_fills_4 k5 y (iMax m (μ 62 (0 + 36 + (3 * y + w).toNat))) (w + 1) (mset μ 62 (0 + 36 + (3 * y + w).toNat) 0) := by
  have e1 : (wI (wI (36 + wI (3 * y)) + w)) = 36 + (3 * y + w) := by rw [wI_id (x := 3 * y) (by omega), wI_id (x := 36 + 3 * y) (by omega), wI_id (by omega)]; omega
  have e2 : (36 + (3 * y + w)).toNat = 0 + 36 + (3 * y + w).toNat := by omega
  rw [mod_fills_4.eq_2, if_neg (by omega), e1, ld_ok (by omega), Option.bind_some]
  unfold mod_fills_43 iMax
  rw [e1, stx_ok (by omega), e2, wI_id (by omega)]
  by_cases z : μ 62 (0 + 36 + (3 * y + w).toNat) ≤ m
  · rw [if_pos z, if_neg (by omega)]; rfl
  · rw [if_neg z, if_pos (by omega)]; rfl
def filM (μ : Mem) (y : Int) : Mem := mset (mset (mset μ 62 (0 + 36 + (3 * y + 0).toNat) 0) 62 (0 + 36 + (3 * y + (0 + 1)).toNat) 0) 62 (0 + 36 + (3 * y + (0 + 1 + 1)).toNat) 0
def max3 (a b c : Int) : Int := iMax (iMax (iMax 0 a) b) c
theorem fills_eq {μ : Mem} {y : Int} (hy : 0 ≤ y ∧ y ≤ 20) : mod_fills y μ = some (max3 (μ 62 (0 + 36 + (3 * y + 0).toNat)) (μ 62 (0 + 36 + (3 * y + (0 + 1)).toNat)) (μ 62 (0 + 36 + (3 * y + (0 + 1 + 1)).toNat)), filM μ y) := by
  obtain ⟨f, hf⟩ := BIG8
  unfold mod_fills
  rw [hf, fillM_st hy (by omega), fillM_st hy (by omega), fillM_st hy (by omega), mod_fills_4.eq_2, if_pos (by omega), mset_ne (by omega), mset_ne (by omega), mset_ne (by omega)]; rfl
def filC (μ : Mem) (y : Int) : Mem := mset (mset (mset μ 5 (3 * y + 0).toNat 0) 5 (3 * y + (0 + 1)).toNat 0) 5 (3 * y + (0 + 1 + 1)).toNat 0
theorem E_fill_ok : E_fill Inv := by
  intro μ H x1 g1
  obtain ⟨c1, c2, c3, c4, c5, c6⟩ := H.c
  obtain ⟨hR, hM, hO, hT⟩ := H.R
  by_cases h1 : 0 ≤ x1 ∧ x1 ≤ μ 61 2
  · have hy : 0 ≤ x1 ∧ x1 ≤ 20 := by omega
    obtain ⟨f, hf⟩ := BIG8
    have d0 := (H.dep (k := 3 * x1 + 0) (by omega)).1
    have d1 := (H.dep (k := 3 * x1 + (0 + 1)) (by omega)).1
    have d2 := (H.dep (k := 3 * x1 + (0 + 1 + 1)) (by omega)).1
    refine ⟨max3 (μ 5 (3 * x1 + 0).toNat) (μ 5 (3 * x1 + (0 + 1)).toNat) (μ 5 (3 * x1 + (0 + 1 + 1)).toNat), filC (pdM μ) x1, filM (filC (pdM μ) x1) x1, ?_, ?_, ?_⟩
    · unfold ww_fill
      rw [hasYard_eq, c1, tT h1, drop_eq, Option.bind_some, hf, fillC_st hy (by omega), fillC_st hy (by omega), fillC_st hy (by omega), ww_fill_24.eq_2, if_pos (by omega), mset_ne (by omega), mset_ne (by omega), mset_ne (by omega), pd_off _ _ (by omega)]; rfl
    · have q : ∀ b, 61 ≤ b → filC (pdM μ) x1 b = μ b := fun b hb => by unfold filC; rw [mset_off (by omega), mset_off (by omega), mset_off (by omega), pd_off _ _ (by omega)]
      unfold mod_fill
      rw [mIsYard_eq, q 61 (by omega), tT h1, fills_eq hy, Option.bind_some, q 62 (by omega), d0, d1, d2]
    · refine Inv.road (R := uq (uq (uq (mR μ 0) 5 (3 * x1 + 0) 0) 5 (3 * x1 + (0 + 1)) 0) 5 (3 * x1 + (0 + 1 + 1)) 0) ?_ ?_ ?_ (((hO.set5 (by omega)).set5 (by omega)).set5 (by omega)) (Icache.dropped ?_ ?_) H
      · unfold filM filC
        exact ((((((pd_Off μ).set (by unfold Rdw; omega)).set (by unfold Rdw; omega)).set (by unfold Rdw; omega)).set (by unfold Rdw; omega)).set (by unfold Rdw; omega)).set (by unfold Rdw; omega)
      · unfold filM filC
        exact (((((hR.pd).set5 (r := 1) (by omega)).set5 (r := 1) (by omega)).set5 (r := 1) (by omega)).mod (by omega) |>.mod (by omega)).mod (by omega)
      · unfold filM filC
        exact MC.set5 (by omega) hT (MC.set5 (by omega) hT (MC.set5 (by omega) hT (MC.cls (by omega) (MC.cls (by omega) (MC.cls (by omega) hM.pd)))))
      · unfold filM filC
        simp only [mset_ap]
        exact (pd_flags μ).1
      · unfold filM filC
        simp only [mset_ap]
        exact (pd_flags μ).2
  · refine ⟨-1, μ, μ, ?_, ?_, H⟩
    · unfold ww_fill
      rw [hasYard_eq, c1, tF h1]
    · unfold mod_fill
      rw [mIsYard_eq, tF h1]
/-! ===== images ===== -/
theorem ww_copy_2_eq (a b n : Nat) (hn : n < 2147483647) (hab : a ≠ b) : ∀ (f i : Nat) (μ : Mem), i ≤ n → n - i < f → ww_copy_2 a n b n f (i : Int) μ = some (fun k j => if k = b ∧ i ≤ j ∧ j < n then μ a j else μ k j) := by
  intro f
  induction f with
  | zero => intro i μ h1 h2; omega
  | succ f ih =>
    intro i μ h1 h2
    rw [ww_copy_2.eq_2]
    by_cases h : (n : Int) ≤ i
    · rw [if_pos h]
      congr 1
      funext k j
      rw [if_neg (by omega)]
    · rw [if_neg h, if_neg h, ld_ok (by omega), Option.bind_some, stx_ok (by omega), Option.bind_some, wI_id (by omega)]
      rw [show ((i : Int) + 1) = ((i + 1 : Nat) : Int) by omega, ih (i + 1) _ (by omega) (by omega)]
      congr 1
      funext k j
      rw [Int.toNat_natCast, mset_off hab, mset_ap]
      by_cases h1 : k = b ∧ i + 1 ≤ j ∧ j < n
      · rw [if_pos h1, if_pos (by omega)]
      · rw [if_neg h1]
        by_cases h2 : k = b ∧ j = i
        · rw [if_pos h2, if_pos (by omega), h2.2]
        · rw [if_neg h2, if_neg (by omega)]
def cpM (μ : Mem) (a b n : Nat) : Mem := fun k j => if k = b ∧ j < n then μ a j else μ k j
theorem ww_copy_eq {a b n : Nat} (hn : n < 2147483647) (hab : a ≠ b) (μ : Mem) : ww_copy a n b n μ = some (cpM μ a b n) := by
  unfold ww_copy cpM
  have h := ww_copy_2_eq a b n hn hab BIG 0 μ (by omega) (by have := BIG_gt; omega)
  simpa using h
theorem cp_off {μ : Mem} {a b n k : Nat} (h : k ≠ b) : cpM μ a b n k = μ k := by funext j; unfold cpM; rw [if_neg (by omega)]
theorem cp_in {μ : Mem} {a b n j : Nat} (h : j < n) : cpM μ a b n b j = μ a j := by unfold cpM; rw [if_pos ⟨rfl, h⟩]
/-- a road's copy -/
def cpR (r r1 : Nat) (μ : Mem) : Mem :=
  mset (mset (mset (mset (mset (cpM (cpM (cpM (cpM (cpM (cpM (cpM μ (r1 + 1) (r + 1) 21) (r1 + 2) (r + 2) 21) (r1 + 3) (r + 3) 63) (r1 + 4) (r + 4) 63) (r1 + 5) (r + 5) 35) (r1 + 6) (r + 6) 8) (r1 + 7) (r + 7) 8) r 7 (μ r1 7)) r 8 (μ r1 8)) r 9 (μ r1 9)) r 10 (μ r1 10)) r 11 (μ r1 11)
theorem copyFrom_eq {r r1 : Nat} (h : r + 8 ≤ r1 ∨ r1 + 8 ≤ r) (μ : Mem) : roa_copyFrom r r1 μ = some (cpR r r1 μ) := by
  unfold roa_copyFrom bnd
  dsimp only
  rw [ww_copy_eq (by omega) (by omega), Option.bind_some, ww_copy_eq (by omega) (by omega), Option.bind_some, ww_copy_eq (by omega) (by omega), Option.bind_some, ww_copy_eq (by omega) (by omega), Option.bind_some, ww_copy_eq (by omega) (by omega), Option.bind_some, ww_copy_eq (by omega) (by omega), Option.bind_some, ww_copy_eq (by omega) (by omega), Option.bind_some]
  simp only [mset_off (show r1 ≠ r by omega), cp_off (show r1 ≠ r + 1 by omega), cp_off (show r1 ≠ r + 2 by omega), cp_off (show r1 ≠ r + 3 by omega), cp_off (show r1 ≠ r + 4 by omega), cp_off (show r1 ≠ r + 5 by omega), cp_off (show r1 ≠ r + 6 by omega), cp_off (show r1 ≠ r + 7 by omega)]
  rfl
theorem cpR_off {r r1 : Nat} {μ : Mem} {k : Nat} (h : k < r ∨ r + 7 < k) : cpR r r1 μ k = μ k := by
  unfold cpR
  rw [mset_off (by omega), mset_off (by omega), mset_off (by omega), mset_off (by omega), mset_off (by omega), cp_off (by omega), cp_off (by omega), cp_off (by omega), cp_off (by omega), cp_off (by omega), cp_off (by omega), cp_off (by omega)]
theorem cpR_row {r r1 : Nat} (h : r + 8 ≤ r1 ∨ r1 + 8 ≤ r) {μ : Mem} {t j : Nat} (ht : (t = 1 ∨ t = 2) ∧ j < 21 ∨ (t = 3 ∨ t = 4) ∧ j < 63 ∨ t = 5 ∧ j < 35 ∨ (t = 6 ∨ t = 7) ∧ j < 8) : cpR r r1 μ (r + t) j = μ (r1 + t) j := by
  unfold cpR
  rw [mset_off (by omega), mset_off (by omega), mset_off (by omega), mset_off (by omega), mset_off (by omega)]
  have h7 : t = 1 ∨ t = 2 ∨ t = 3 ∨ t = 4 ∨ t = 5 ∨ t = 6 ∨ t = 7 := by omega
  rcases h7 with h7 | h7 | h7 | h7 | h7 | h7 | h7 <;> subst h7
  · rw [cp_off (by omega), cp_off (by omega), cp_off (by omega), cp_off (by omega), cp_off (by omega), cp_off (by omega), cp_in (by omega)]
  · rw [cp_off (by omega), cp_off (by omega), cp_off (by omega), cp_off (by omega), cp_off (by omega), cp_in (by omega), cp_off (by omega)]
  · rw [cp_off (by omega), cp_off (by omega), cp_off (by omega), cp_off (by omega), cp_in (by omega), cp_off (by omega), cp_off (by omega)]
  · rw [cp_off (by omega), cp_off (by omega), cp_off (by omega), cp_in (by omega), cp_off (by omega), cp_off (by omega), cp_off (by omega)]
  · rw [cp_off (by omega), cp_off (by omega), cp_in (by omega), cp_off (by omega), cp_off (by omega), cp_off (by omega), cp_off (by omega)]
  · rw [cp_off (by omega), cp_in (by omega), cp_off (by omega), cp_off (by omega), cp_off (by omega), cp_off (by omega), cp_off (by omega)]
  · rw [cp_in (by omega), cp_off (by omega), cp_off (by omega), cp_off (by omega), cp_off (by omega), cp_off (by omega), cp_off (by omega)]
theorem cpR_slot {r r1 : Nat} {μ : Mem} {j : Nat} (hj : 7 ≤ j ∧ j < 12) : cpR r r1 μ r j = μ r1 j := by
  have h : j = 7 ∨ j = 8 ∨ j = 9 ∨ j = 10 ∨ j = 11 := by omega
  unfold cpR
  rcases h with h | h | h | h | h <;> subst h
  · rw [mset_ne (by omega), mset_ne (by omega), mset_ne (by omega), mset_ne (by omega), mset_same]
  · rw [mset_ne (by omega), mset_ne (by omega), mset_ne (by omega), mset_same]
  · rw [mset_ne (by omega), mset_ne (by omega), mset_same]
  · rw [mset_ne (by omega), mset_same]
  · rw [mset_same]
theorem RC.cp {μ : Mem} {r r1 : Nat} {R : Rd} (h : r + 8 ≤ r1 ∨ r1 + 8 ≤ r) (hn : 0 ≤ R 0 1 ∧ R 0 1 ≤ 5) (hT : R 0 2 ≤ 8) (H : RC μ r1 R) : RC (cpR r r1 μ) r R := by
  obtain ⟨⟨a1, a2, a3⟩, b, c, ⟨bb, b1, b2, b3⟩, e, f, g, h7, ⟨ff, f1, f2, f3⟩, h9⟩ := H
  refine ⟨⟨by rw [cpR_slot (by omega)]; exact a1, by rw [cpR_slot (by omega)]; exact a2, by rw [cpR_slot (by omega)]; exact a3⟩,
    fun j h1 h2 => by rw [cpR_row h (by omega)]; exact b j h1 h2,
    fun j h1 h2 => by rw [cpR_row h (by omega)]; exact c j h1 h2,
    ⟨bb, by rw [cpR_slot (by omega)]; exact b1, b2, b3⟩,
    fun j h1 h2 => by rw [cpR_row h (by omega)]; exact e j h1 h2,
    fun j h1 h2 => by rw [cpR_row h (by omega)]; exact f j h1 h2,
    fun j h1 h2 => by rw [cpR_row h (by omega)]; exact g j h1 h2,
    fun j h1 h2 => by rw [cpR_row h (by omega)]; exact h7 j h1 h2,
    ⟨ff, by rw [cpR_slot (by omega)]; exact f1, f2, f3⟩,
    fun j h1 h2 => by rw [cpR_row h (by omega)]; exact h9 j h1 h2⟩
def cpS (a b : Nat) (μ : Mem) : Mem := fun k j => if k = 62 ∧ b ≤ j ∧ j < b + 185 then μ 62 (a + (j - b)) else μ k j
theorem copies_2_eq (a b : Nat) (ha : a ≤ 370) (hb : b ≤ 370) (hab : a + 185 ≤ b ∨ b + 185 ≤ a) : ∀ (f i : Nat) (μ : Mem), i ≤ 185 → 185 - i < f → mod_copies_2 f (b : Int) (a : Int) (i : Int) μ = some (fun k j => if k = 62 ∧ b + i ≤ j ∧ j < b + 185 then μ 62 (a + (j - b)) else μ k j) := by
  intro f
  induction f with
  | zero => intro i μ h1 h2; omega
  | succ f ih =>
    intro i μ h1 h2
    rw [mod_copies_2.eq_2]
    by_cases h : (185 : Int) ≤ i
    · rw [if_pos h]
      congr 1
      funext k j
      rw [if_neg (by omega)]
    · rw [if_neg h, wI_id (x := (a : Int) + i) (by omega), ld_ok (by omega), Option.bind_some, wI_id (x := (b : Int) + i) (by omega), stx_ok (by omega), Option.bind_some, wI_id (by omega)]
      rw [show ((i : Int) + 1) = ((i + 1 : Nat) : Int) by omega, ih (i + 1) _ (by omega) (by omega)]
      congr 1
      funext k j
      rw [show ((a : Int) + i).toNat = a + i by omega, show ((b : Int) + i).toNat = b + i by omega, mset_ap, mset_ap]
      by_cases h1 : k = 62 ∧ b + (i + 1) ≤ j ∧ j < b + 185
      · rw [if_pos h1, if_neg (by omega), if_pos (by omega)]
      · rw [if_neg h1]
        by_cases h2 : k = 62 ∧ j = b + i
        · rw [if_pos h2, if_pos (by omega), h2.2, show b + i - b = i by omega]
        · rw [if_neg h2, if_neg (by omega)]
theorem copies_eq {a b : Nat} {x y : Int} (hx : x = (b : Int)) (hy : y = (a : Int)) (ha : a ≤ 370) (hb : b ≤ 370) (hab : a + 185 ≤ b ∨ b + 185 ≤ a) (μ : Mem) : mod_copies x y μ = some (cpS a b μ) := by
  unfold mod_copies cpS
  subst hx hy
  have h := copies_2_eq a b ha hb hab BIG 0 μ (by omega) (by have := BIG_gt; omega)
  simpa using h
theorem cpS_off {a b : Nat} {μ : Mem} {k : Nat} (h : k ≠ 62) : cpS a b μ k = μ k := by funext j; unfold cpS; rw [if_neg (by omega)]
theorem cpS_out {a b : Nat} {μ : Mem} {j : Nat} (h : j < b ∨ b + 185 ≤ j) : cpS a b μ 62 j = μ 62 j := by unfold cpS; rw [if_neg (by omega)]
theorem cpS_in {a b : Nat} {μ : Mem} {j : Nat} (h : j < 185) : cpS a b μ 62 (b + j) = μ 62 (a + j) := by unfold cpS; rw [if_pos (by omega), show b + j - b = j by omega]
theorem cpS_in' {a b : Nat} {μ : Mem} {i j : Nat} (h : i < 185) (e : j = b + i) : cpS a b μ 62 j = μ 62 (a + i) := by rw [e, cpS_in h]
theorem MC.cp {μ : Mem} {a b : Nat} {R : Rd} (hT : R 0 2 ≤ 8) (H : MC μ a R) : MC (cpS a b μ) b R := by
  obtain ⟨⟨a1, a2, a3⟩, b', c, d, e, f, g, h7, h8, h9⟩ := H
  refine ⟨⟨by rw [cpS_off (by omega)]; exact a1, by rw [cpS_in' (i := 0) (by omega) (by omega)]; exact a2, by rw [cpS_in (by omega)]; exact a3⟩,
    fun j h1 h2 => by rw [cpS_off (by omega)]; exact b' j h1 h2,
    fun j h1 h2 => by rw [cpS_off (by omega)]; exact c j h1 h2,
    fun j h1 h2 => by rw [cpS_off (by omega)]; exact d j h1 h2,
    fun j h1 h2 => by rw [cpS_off (by omega)]; exact e j h1 h2,
    fun j h1 h2 => by rw [cpS_in' (i := 36 + j.toNat) (by omega) (by omega), show a + (36 + j.toNat) = a + 36 + j.toNat by omega]; exact f j h1 h2,
    fun j h1 h2 => by rw [cpS_in' (i := 1 + j.toNat) (by omega) (by omega), show a + (1 + j.toNat) = a + 1 + j.toNat by omega]; exact g j h1 h2,
    fun j h1 h2 => by rw [cpS_in' (i := 160 + j.toNat) (by omega) (by omega), show a + (160 + j.toNat) = a + 160 + j.toNat by omega]; exact h7 j h1 h2,
    fun j h1 h2 => by rw [cpS_in' (i := 99 + j.toNat) (by omega) (by omega), show a + (99 + j.toNat) = a + 99 + j.toNat by omega]; exact h8 j h1 h2,
    fun j h1 h2 => by rw [cpS_in' (i := 169 + 2 * j.toNat) (by omega) (by omega), cpS_in' (i := 170 + 2 * j.toNat) (by omega) (by omega), show a + (169 + 2 * j.toNat) = a + 169 + 2 * j.toNat by omega, show a + (170 + 2 * j.toNat) = a + 170 + 2 * j.toNat by omega]; exact h9 j h1 h2⟩
/-- st the same where an image lies: the image the same -/
theorem MC.rng {μ μ' : Mem} {o : Nat} {R : Rd} (hT : R 0 2 ≤ 8) (h1 : μ' 61 2 = μ 61 2) (h : ∀ a, 64 ≤ a → a ≤ 67 → μ' a = μ a) (h2 : ∀ j, o ≤ j → j < o + 185 → μ' 62 j = μ 62 j) (H : MC μ o R) : MC μ' o R := by
  obtain ⟨⟨a1, a2, a3⟩, b', c, d, e, f, g, h7, h8, h9⟩ := H
  refine ⟨⟨h1.trans a1, by rw [h2 _ (by omega) (by omega)]; exact a2, by rw [h2 _ (by omega) (by omega)]; exact a3⟩,
    fun j h3 h4 => by rw [h _ (by omega) (by omega)]; exact b' j h3 h4,
    fun j h3 h4 => by rw [h _ (by omega) (by omega)]; exact c j h3 h4,
    fun j h3 h4 => by rw [h _ (by omega) (by omega)]; exact d j h3 h4,
    fun j h3 h4 => by rw [h _ (by omega) (by omega)]; exact e j h3 h4,
    fun j h3 h4 => by rw [h2 _ (by omega) (by omega)]; exact f j h3 h4,
    fun j h3 h4 => by rw [h2 _ (by omega) (by omega)]; exact g j h3 h4,
    fun j h3 h4 => by rw [h2 _ (by omega) (by omega)]; exact h7 j h3 h4,
    fun j h3 h4 => by rw [h2 _ (by omega) (by omega)]; exact h8 j h3 h4,
    fun j h3 h4 => by rw [h2 _ (by omega) (by omega), h2 _ (by omega) (by omega)]; exact h9 j h3 h4⟩
/-- an image: class's road at r and st from o on -/
def Img (μ : Mem) (r o : Nat) : Prop := RC μ r (mR μ o) ∧ Ok (mR μ o)
theorem Img.of {μ : Mem} {r o : Nat} {R : Rd} (h1 : RC μ r R) (h2 : MC μ o R) (h3 : Ok R) : Img μ r o := ⟨h1.to h3.n.2 h2.ag, h3.to h2.ag⟩
theorem Img.keep {μ μ' : Mem} {r o : Nat} (h1 : μ' 61 2 = μ 61 2) (h : ∀ a, 64 ≤ a → a ≤ 67 → μ' a = μ a) (h2 : ∀ j, o ≤ j → j < o + 185 → μ' 62 j = μ 62 j) (h3 : ∀ a, r ≤ a → a ≤ r + 7 → μ' a = μ a) (H : Img μ r o) : Img μ' r o :=
  Img.of (H.1.off h3) ((MC_mR μ o).rng H.2.1.2.2.2.2.2 h1 h h2) H.2
