/-! ===== the small told functions, closed ===== -/
theorem mset_ap (μ : Mem) (k i : Nat) (v : Int) (a b : Nat) : mset μ k i v a b = if a = k ∧ b = i then v else μ a b := rfl
theorem at_in {a n : Nat} {μ : Mem} {x : Int} (h : 0 ≤ x ∧ x < (n : Int)) : ww_at a n μ x = some (μ a x.toNat) := by
  unfold ww_at
  rw [if_neg (by omega), if_neg (by omega), ld_ok h]; rfl
theorem at_out {a n : Nat} {μ : Mem} {x : Int} (h : ¬ (0 ≤ x ∧ x < (n : Int))) : ww_at a n μ x = some 0 := by
  unfold ww_at
  by_cases h0 : x < 0
  · rw [if_pos h0]
  · rw [if_neg h0, if_pos (by omega)]
theorem put_in {a n : Nat} {μ : Mem} {x v : Int} (h : 0 ≤ x ∧ x < (n : Int)) : ww_put a n x v μ = some (mset μ a x.toNat v) := by
  unfold ww_put
  rw [if_neg (by omega), if_neg (by omega), stx_ok h]; rfl
theorem swap_in {a n : Nat} {μ : Mem} {x v : Int} (h : 0 ≤ x ∧ x < (n : Int)) : ww_swap a n x v μ = some (μ a x.toNat, mset μ a x.toNat v) := by
  unfold ww_swap
  rw [at_in h, Option.bind_some, put_in h]; rfl
theorem isWidth_eq (μ : Mem) (x : Int) : ww_isWidth μ x = some (if 0 ≤ x ∧ x ≤ 2 then 1 else 0) := by
  unfold ww_isWidth; grind
theorem isImage_eq (μ : Mem) (x : Int) : ww_isImage μ x = some (if 0 ≤ x ∧ x ≤ 1 then 1 else 0) := by
  unfold ww_isImage; grind
theorem isBehind_eq (μ : Mem) (x : Int) : ww_isBehind μ x = some (if 0 ≤ x ∧ x ≤ 60 then 1 else 0) := by
  unfold ww_isBehind; grind
theorem isHour_eq (μ : Mem) (x : Int) : ww_isHour μ x = some (if 1 ≤ x ∧ x ≤ 60 then 1 else 0) := by
  unfold ww_isHour; grind
theorem isShare_eq (μ : Mem) (x : Int) : ww_isShare μ x = some (if 0 ≤ x ∧ x ≤ 60 then 1 else 0) := by
  unfold ww_isShare; grind
theorem isPeoples_eq (μ : Mem) (x : Int) : ww_isPeoples μ x = some (if 1 ≤ x ∧ x ≤ 7 then 1 else 0) := by
  unfold ww_isPeoples; grind
theorem isLane_eq (μ : Mem) (x : Int) : she_isLane μ x = some (if 0 ≤ x ∧ x ≤ 2 then 1 else 0) := by
  unfold she_isLane; grind
theorem cIsSheet_eq (μ : Mem) (x : Int) : she_isSheet μ x = some (if 0 ≤ x ∧ x ≤ 3 then 1 else 0) := by
  unfold she_isSheet; grind
theorem hasYard_eq (r : Nat) (μ : Mem) (x : Int) : roa_hasYard r μ x = some (if 0 ≤ x ∧ x ≤ μ r 9 then 1 else 0) := by
  unfold roa_hasYard; grind
theorem hasCart_eq (r : Nat) (μ : Mem) (x : Int) : roa_hasCart r μ x = some (if 0 ≤ x ∧ x < μ r 10 then 1 else 0) := by
  unfold roa_hasCart; grind
theorem in_eq (μ : Mem) (x a b : Int) : mod_in μ x a b = some (if a ≤ x ∧ x ≤ b then 1 else 0) := by
  unfold mod_in lCmp; grind
theorem mIsWidth_eq (μ : Mem) (x : Int) : mod_isWidth μ x = some (if 0 ≤ x ∧ x ≤ 2 then 1 else 0) := by
  unfold mod_isWidth; rw [in_eq]; rfl
theorem mIsTime_eq (μ : Mem) (x : Int) : mod_isTime μ x = some (if 0 ≤ x ∧ x ≤ 60 then 1 else 0) := by
  unfold mod_isTime; rw [in_eq]; rfl
theorem mIsHour_eq (μ : Mem) (x : Int) : mod_isHour μ x = some (if 1 ≤ x ∧ x ≤ 60 then 1 else 0) := by
  unfold mod_isHour; rw [in_eq]; rfl
theorem mIsShare_eq (μ : Mem) (x : Int) : mod_isShare μ x = some (if 0 ≤ x ∧ x ≤ 60 then 1 else 0) := by
  unfold mod_isShare; rw [in_eq]; rfl
theorem areSome_eq (μ : Mem) (x : Int) : mod_areSome μ x = some (if 1 ≤ x ∧ x ≤ 7 then 1 else 0) := by
  unfold mod_areSome; rw [in_eq]; rfl
theorem mIsYard_eq (μ : Mem) (x : Int) : mod_isYard μ x = some (if 0 ≤ x ∧ x ≤ μ 61 2 then 1 else 0) := by
  unfold mod_isYard; rw [in_eq]; rfl
theorem mIsCart_eq {μ : Mem} (h : 0 ≤ μ 62 0 ∧ μ 62 0 ≤ 5) (x : Int) : mod_isCart μ x = some (if 0 ≤ x ∧ x < μ 62 0 then 1 else 0) := by
  unfold mod_isCart
  rw [wI_id (by omega), in_eq, Option.bind_some]
  congr 1
  by_cases h1 : 0 ≤ x ∧ x < μ 62 0
  · rw [if_pos h1, if_pos (by omega)]
  · rw [if_neg h1, if_neg (by omega)]
theorem mIsSheet_eq (μ : Mem) (x y : Int) : mod_isSheet μ x y = some (if (0 ≤ x ∧ x ≤ 3) ∧ 0 ≤ y ∧ y ≤ 2 then 1 else 0) := by
  unfold mod_isSheet; rw [in_eq, in_eq]; grind
theorem flag_eq (μ : Mem) (x : Int) : mod_flag μ x = some (if x = 0 then 0 else 1) := by
  unfold mod_flag; grind
theorem rut_eq {μ : Mem} {y w : Int} (h : -1000000 ≤ y ∧ y ≤ 1000000 ∧ -1000000 ≤ w ∧ w ≤ 1000000) : ww_rut μ y w = some (3 * y + w) := by
  unfold ww_rut
  rw [wI_id (x := y * 3) (by omega), wI_id (by omega)]
  congr 1; omega
theorem part_eq {r : Nat} {μ : Mem} {c k : Int} (h : 0 ≤ c ∧ c < 5 ∧ 0 ≤ k ∧ k < 7) : roa_part r μ c k = some (μ (r + 5) (7 * c + k).toNat) := by
  unfold roa_part bnd
  dsimp only
  rw [wI_id (x := c * 7) (by omega), wI_id (by omega), if_neg (by omega), if_neg (by omega), ld_ok (by omega), Option.bind_some, show c * 7 + k = 7 * c + k by omega]
theorem of_eq {μ : Mem} {c k : Int} (h : 0 ≤ c ∧ c < 5 ∧ 0 ≤ k ∧ k < 7) : mod_of μ c k = some (μ 62 (0 + 1 + (7 * c + k).toNat)) := by
  unfold mod_of
  rw [wI_id (x := 7 * c) (by omega), wI_id (x := 1 + 7 * c) (by omega), wI_id (by omega), ld_ok (by omega), Option.bind_some, show (1 + 7 * c + k).toNat = 0 + 1 + (7 * c + k).toNat by omega]
theorem smithAt_in {r : Nat} {μ : Mem} {x : Int} (h : 0 ≤ x ∧ x < 21) : roa_smithAt r μ x = some (μ (r + 2) x.toNat) := by
  unfold roa_smithAt; rw [if_neg (by omega), if_neg (by omega), ld_ok (by omega)]; rfl
theorem hillAt_in {r : Nat} {μ : Mem} {x : Int} (h : 0 ≤ x ∧ x < 21) : roa_hillAt r μ x = some (μ (r + 1) x.toNat) := by
  unfold roa_hillAt; rw [if_neg (by omega), if_neg (by omega), ld_ok (by omega)]; rfl
theorem hasRut_eq {r : Nat} {μ : Mem} {y w : Int} (h : μ r 9 ≤ 20) : roa_hasRut r μ y w = some (if (0 ≤ y ∧ y ≤ μ r 9) ∧ (0 ≤ w ∧ w ≤ 2) ∧ (μ (r + 1) y.toNat = -4 ∨ μ (r + 1) y.toNat = w) then 1 else 0) := by
  unfold roa_hasRut
  rw [hasYard_eq, isWidth_eq, Option.bind_some, Option.bind_some]
  by_cases h1 : 0 ≤ y ∧ y ≤ μ r 9
  · rw [hillAt_in (by omega)]; grind
  · grind
theorem mHasRut_eq {μ : Mem} {y w : Int} (h : 0 ≤ y ∧ y < 21) : mod_hasRut μ y w = some (if μ 65 y.toNat = -4 ∨ μ 65 y.toNat = w then 1 else 0) := by
  unfold mod_hasRut
  rw [ld_ok (by omega)]; grind
/-! ===== a bit of a whole number ===== -/
theorem shr_bit {b i : Nat} : (b / 2 ^ i &&& 1 : Nat) = if b.testBit i then 1 else 0 := by
  rw [Nat.testBit, Nat.shiftRight_eq_div_pow, Nat.and_comm]
  have h : 1 &&& (b / 2 ^ i) = (b / 2 ^ i) % 2 := by rw [Nat.one_and_eq_mod_two]
  rw [h]
  have := Nat.mod_two_eq_zero_or_one (b / 2 ^ i)
  rcases this with h | h <;> simp [h]
theorem iBit {b i : Nat} (hb : b < 2147483648) (hi : i < 32) : iAnd (iShr (b : Int) (i : Int)) 1 = if b.testBit i then 1 else 0 := by
  rw [iShr_nat hb hi]
  have := iAnd_nat (a := b / 2 ^ i) (b := 1) (Nat.lt_of_le_of_lt (Nat.div_le_self _ _) hb) (by omega)
  rw [show ((1 : Nat) : Int) = 1 from rfl] at this
  rw [this, shr_bit]
  split <;> rfl
theorem lBit {b i : Nat} (hb : b < 9223372036854775808) (hi : i < 64) : lAnd (lShr (b : Int) (i : Int)) 1 = if b.testBit i then 1 else 0 := by
  rw [lShr_nat hb hi]
  have := lAnd_nat (a := b / 2 ^ i) (b := 1) (Nat.lt_of_le_of_lt (Nat.div_le_self _ _) hb) (by omega)
  rw [show ((1 : Nat) : Int) = 1 from rfl] at this
  rw [this, shr_bit]
  split <;> rfl
theorem iSet {b i : Nat} (hb : b < 2147483648) (hi : i < 31) : ∃ g : Nat, iOr (b : Int) (iShl 1 (i : Int)) = (g : Int) ∧ g = b ||| 2 ^ i ∧ ∀ j, g.testBit j = (b.testBit j || decide (j = i)) := by
  have hp : 2 ^ i < 2147483648 := Nat.pow_lt_pow_right (by omega) (show i < 31 from hi)
  have e1 : iShl 1 (i : Int) = ((2 ^ i : Nat) : Int) := by
    have := iShl_nat (n := 1) (s := i) (by omega) (by omega)
    simpa using this
  refine ⟨b ||| 2 ^ i, ?_, rfl, fun j => ?_⟩
  · rw [e1, iOr_nat hb hp]
  · rw [Nat.testBit_or, Nat.testBit_two_pow]
    by_cases h : i = j
    · subst h; simp
    · rw [decide_eq_false h, decide_eq_false (Ne.symm h)]
theorem lSet {b i : Nat} (hb : b < 9223372036854775808) (hi : i < 63) : ∃ g : Nat, lOr (b : Int) (lShl 1 (i : Int)) = (g : Int) ∧ g = b ||| 2 ^ i ∧ ∀ j, g.testBit j = (b.testBit j || decide (j = i)) := by
  have hp : 2 ^ i < 9223372036854775808 := Nat.pow_lt_pow_right (by omega) (show i < 63 from hi)
  have e1 : lShl 1 (i : Int) = ((2 ^ i : Nat) : Int) := by
    have := lShl_nat (n := 1) (s := i) (by omega) (by omega)
    simpa using this
  refine ⟨b ||| 2 ^ i, ?_, rfl, fun j => ?_⟩
  · rw [e1, lOr_nat hb hp]
  · rw [Nat.testBit_or, Nat.testBit_two_pow]
    by_cases h : i = j
    · subst h; simp
    · rw [decide_eq_false h, decide_eq_false (Ne.symm h)]
theorem lCmp0 (x : Int) : (lCmp x 0 = 0) = (x = 0) := by
  unfold lCmp; grind
