/-! ===== bits of small whole numbers ===== -/
theorem i32_nat {n : Nat} (h : n < 2147483648) : (Int32.ofInt (n : Int)).toBitVec.toNat = n := by
  rw [Int32.ofInt_eq_ofNat]
  exact pk_tn (by omega)
theorem i32_of_bv {x : Int32} {n : Nat} (h : n < 2147483648) (hx : x.toBitVec.toNat = n) : x.toInt = (n : Int) := by
  have e : x = Int32.ofNat n := by
    apply Int32.toBitVec_inj.mp
    apply BitVec.eq_of_toNat_eq
    rw [hx]
    exact (pk_tn (by omega)).symm
  rw [e]
  exact nI_toInt (by omega)
theorem iAnd_nat {a b : Nat} (ha : a < 2147483648) (hb : b < 2147483648) : iAnd (a : Int) (b : Int) = ((a &&& b : Nat) : Int) := by
  unfold iAnd
  refine i32_of_bv (Nat.lt_of_le_of_lt Nat.and_le_left ha) ?_
  rw [Int32.toBitVec_and, BitVec.toNat_and, i32_nat ha, i32_nat hb]
theorem iOr_nat {a b : Nat} (ha : a < 2147483648) (hb : b < 2147483648) : iOr (a : Int) (b : Int) = ((a ||| b : Nat) : Int) := by
  unfold iOr
  have h : a ||| b < 2 ^ 31 := Nat.or_lt_two_pow (by omega) (by omega)
  refine i32_of_bv (by omega) ?_
  rw [Int32.toBitVec_or, BitVec.toNat_or, i32_nat ha, i32_nat hb]
theorem and31 {s : Nat} (hs : s < 32) : Int32.ofInt (s : Int) &&& 31 = Int32.ofInt (s : Int) := by
  apply Int32.toBitVec_inj.mp
  apply BitVec.eq_of_toNat_eq
  rw [Int32.toBitVec_and, BitVec.toNat_and, i32_nat (by omega), show (31 : Int32).toBitVec.toNat = 31 from rfl]
  have := Nat.and_two_pow_sub_one_eq_mod s 5
  simp at this
  rw [this]
  omega
theorem smod_nat {s : Nat} (hs : s < 32) : ((Int32.ofInt (s : Int)).toBitVec.smod 32).toNat = s := by
  have h1 : (Int32.ofInt (s : Int)).toBitVec = BitVec.ofNat 32 s := by
    apply BitVec.eq_of_toNat_eq
    rw [i32_nat (by omega)]
    simp
    omega
  rw [h1]
  have : ∀ s : Fin 32, ((BitVec.ofNat 32 s.val).smod 32).toNat = s.val := by decide
  exact this ⟨s, hs⟩
theorem iShr_nat {n s : Nat} (hn : n < 2147483648) (hs : s < 32) : iShr (n : Int) (s : Int) = ((n / 2 ^ s : Nat) : Int) := by
  unfold iShr
  rw [and31 hs, Int32.ofInt_eq_ofNat (n := n)]
  have h := pk_shrN (n := n) (by omega) (Int32.ofInt (s : Int)) s (smod_nat hs)
  have h2 : n / 2 ^ s < 2147483648 := Nat.lt_of_le_of_lt (Nat.div_le_self _ _) hn
  show (nI n >>> Int32.ofInt (s : Int)).toInt = _
  rw [h]
  exact nI_toInt (by omega)
theorem iShl_nat {n s : Nat} (hs : s < 32) (hn : n * 2 ^ s < 2147483648) : iShl (n : Int) (s : Int) = ((n * 2 ^ s : Nat) : Int) := by
  unfold iShl
  rw [and31 hs, Int32.ofInt_eq_ofNat (n := n)]
  have h := pk_shlN (n := n) (Int32.ofInt (s : Int)) s (smod_nat hs) (by omega)
  show (nI n <<< Int32.ofInt (s : Int)).toInt = _
  rw [h]
  exact nI_toInt (by omega)
theorem l64_bv {n : Nat} (h : n < 9223372036854775808) : (Int64.ofInt (n : Int)).toBitVec.toNat = n := by
  rw [Int64.ofInt_eq_ofNat]
  show (BitVec.ofNat 64 n).toNat = n
  rw [BitVec.toNat_ofNat]
  exact Nat.mod_eq_of_lt (by omega)
theorem l64_of_bv {x : Int64} {n : Nat} (h : n < 9223372036854775808) (hx : x.toBitVec.toNat = n) : x.toInt = (n : Int) := by
  show x.toBitVec.toInt = _
  rw [BitVec.toInt_eq_toNat_of_lt (by rw [hx]; omega), hx]
theorem lAnd_nat {a b : Nat} (ha : a < 9223372036854775808) (hb : b < 9223372036854775808) : lAnd (a : Int) (b : Int) = ((a &&& b : Nat) : Int) := by
  unfold lAnd
  refine l64_of_bv (Nat.lt_of_le_of_lt Nat.and_le_left ha) ?_
  rw [Int64.toBitVec_and, BitVec.toNat_and, l64_bv ha, l64_bv hb]
theorem lOr_nat {a b : Nat} (ha : a < 9223372036854775808) (hb : b < 9223372036854775808) : lOr (a : Int) (b : Int) = ((a ||| b : Nat) : Int) := by
  unfold lOr
  have h : a ||| b < 2 ^ 63 := Nat.or_lt_two_pow (by omega) (by omega)
  refine l64_of_bv (by omega) ?_
  rw [Int64.toBitVec_or, BitVec.toNat_or, l64_bv ha, l64_bv hb]
theorem l_amt {s : Nat} (hs : s < 64) : (Int32.ofInt (s : Int)).toInt64 &&& 63 = Int64.ofInt (s : Int) := by
  have h1 : (Int32.ofInt (s : Int)).toInt64 = Int64.ofInt (s : Int) := by
    rw [← Int64.toInt_inj, i64_toInt (by omega), Int32.toInt_toInt64, i32_toInt (by omega)]
  rw [h1]
  apply Int64.toBitVec_inj.mp
  apply BitVec.eq_of_toNat_eq
  rw [Int64.toBitVec_and, BitVec.toNat_and, l64_bv (by omega), show (63 : Int64).toBitVec.toNat = 63 from rfl]
  have := Nat.and_two_pow_sub_one_eq_mod s 6
  simp at this
  rw [this]
  omega
theorem l_smod {s : Nat} (hs : s < 64) : ((Int64.ofInt (s : Int)).toBitVec.smod 64).toNat = s := by
  have h1 : (Int64.ofInt (s : Int)).toBitVec = BitVec.ofNat 64 s := by
    apply BitVec.eq_of_toNat_eq
    rw [l64_bv (by omega)]
    simp
    omega
  rw [h1]
  have : ∀ s : Fin 64, ((BitVec.ofNat 64 s.val).smod 64).toNat = s.val := by decide
  exact this ⟨s, hs⟩
theorem lShl_nat {n s : Nat} (hs : s < 64) (hn : n * 2 ^ s < 9223372036854775808) : lShl (n : Int) (s : Int) = ((n * 2 ^ s : Nat) : Int) := by
  unfold lShl
  rw [l_amt hs]
  have hle : n ≤ n * 2 ^ s := Nat.le_mul_of_pos_right _ (Nat.two_pow_pos s)
  refine l64_of_bv hn ?_
  show ((Int64.ofInt (n : Int)).toBitVec <<< ((Int64.ofInt (s : Int)).toBitVec.smod 64).toNat).toNat = _
  rw [l_smod hs, BitVec.toNat_shiftLeft, l64_bv (by omega), Nat.shiftLeft_eq]
  exact Nat.mod_eq_of_lt (by omega)
theorem lShr_nat {n s : Nat} (hn : n < 9223372036854775808) (hs : s < 64) : lShr (n : Int) (s : Int) = ((n / 2 ^ s : Nat) : Int) := by
  unfold lShr
  rw [l_amt hs]
  show ((Int64.ofInt (n : Int)).toBitVec.sshiftRight ((Int64.ofInt (s : Int)).toBitVec.smod 64).toNat).toInt = _
  rw [l_smod hs, BitVec.toInt_sshiftRight]
  have h1 : (Int64.ofInt (n : Int)).toBitVec.toInt = (n : Int) := i64_toInt (by omega)
  rw [h1, Int.shiftRight_eq_div_pow]
  rfl
theorem l_clear {f h : Nat} (hf : f < 9223372036854775808) (hh : h < 63) : ∃ g : Nat, lAnd (f : Int) (lXor (lShl 1 (h : Int)) (-1)) = (g : Int) ∧ g ≤ f ∧ ∀ i, g.testBit i = (f.testBit i && decide (i ≠ h)) := by
  have hp : 2 ^ h < 9223372036854775808 := Nat.pow_lt_pow_right (by omega) (show h < 63 from hh)
  have e1 : lShl 1 (h : Int) = ((2 ^ h : Nat) : Int) := by
    have := lShl_nat (n := 1) (s := h) (by omega) (by omega)
    simpa using this
  rw [e1]
  unfold lAnd lXor
  rw [Int64.ofInt_toInt]
  have hm : Int64.ofInt (-1) = -1 := rfl
  rw [hm]
  refine ⟨(Int64.ofInt (f : Int) &&& (Int64.ofInt ((2 ^ h : Nat) : Int) ^^^ -1)).toBitVec.toNat, ?_, ?_, ?_⟩
  · refine l64_of_bv ?_ rfl
    rw [Int64.toBitVec_and, BitVec.toNat_and, l64_bv hf]
    exact Nat.lt_of_le_of_lt Nat.and_le_left hf
  · rw [Int64.toBitVec_and, BitVec.toNat_and, l64_bv hf]
    exact Nat.and_le_left
  · intro i
    rw [Int64.toBitVec_and, BitVec.toNat_and, l64_bv hf, Nat.testBit_and, Int64.toBitVec_xor, BitVec.toNat_xor, l64_bv hp, Nat.testBit_xor, Nat.testBit_two_pow]
    have hm1 : (-1 : Int64).toBitVec.toNat = 2 ^ 64 - 1 := rfl
    rw [hm1, Nat.testBit_two_pow_sub_one]
    by_cases hi : i < 64
    · by_cases hc : h = i
      · subst hc; simp [hi]
      · simp [hi, hc, Ne.symm hc]
    · have : f.testBit i = false := Nat.testBit_lt_two_pow (Nat.lt_of_lt_of_le (show f < 2 ^ 63 by omega) (Nat.pow_le_pow_right (by omega) (by omega)))
      simp [this]
