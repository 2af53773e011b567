/-! ===== text: toll and rut ===== -/
def pT (y w : Int) (ν : Mem) : Option Mem := (mod_readNumber 0 9 ν).bind fun u3 => (stx u3.2 72 63 (wI ((wI (3 * y)) + w)) u3.1).bind fun μ4 => some μ4
def pR (y w : Int) (ν : Mem) : Option Mem := (mod_readNumber 0 99 ν).bind fun u5 => (stx u5.2 68 185 (wI ((wI (36 + (wI (3 * y)))) + w)) u5.1).bind fun μ6 => (stx μ6 73 63 (wI ((wI (3 * y)) + w)) (zN 1)).bind fun μ7 => some μ7
theorem rl4 (ν : Mem) : mod_readLineOf 4 ν = (mod_readYard ν).bind fun u1 => (mod_readNumber 0 2 u1.2).bind fun u2 => pT u1.1 u2.1 u2.2 := by
  rw [mod_readLineOf.eq_1, if_neg (by omega), if_neg (by omega), if_neg (by omega), if_pos rfl, bse, mod_readPlace.eq_1]
  rfl
theorem rl5 (ν : Mem) : mod_readLineOf 5 ν = (mod_readYard ν).bind fun u1 => (mod_readNumber 0 2 u1.2).bind fun u2 => pR u1.1 u2.1 u2.2 := by
  rw [mod_readLineOf.eq_1, if_neg (by omega), if_neg (by omega), if_neg (by omega), if_neg (by omega), if_pos rfl, bse, mod_readPlace.eq_1]
  rfl
theorem pT_eq {y w v : Int} {ν ν1 : Mem} (hy : 0 ≤ y ∧ y ≤ 20) (hw : 0 ≤ w ∧ w ≤ 2) (h : mod_readNumber 0 9 ν = some (v, ν1)) : pT y w ν = some (mset ν1 72 (3 * y + w).toNat v) := by
  unfold pT
  rw [h, Option.bind_some]
  dsimp only
  rw [wI_id (x := 3 * y) (by omega), wI_id (by omega), stx_ok (by omega), Option.bind_some]
theorem pR_eq {y w v : Int} {ν ν1 : Mem} (hy : 0 ≤ y ∧ y ≤ 20) (hw : 0 ≤ w ∧ w ≤ 2) (h : mod_readNumber 0 99 ν = some (v, ν1)) : pR y w ν = some (mset (mset ν1 68 (36 + (3 * y + w).toNat) v) 73 (3 * y + w).toNat 1) := by
  unfold pR
  rw [h, Option.bind_some]
  dsimp only
  rw [wI_id (x := 3 * y) (by omega), wI_id (x := 36 + 3 * y) (by omega), wI_id (x := 36 + 3 * y + w) (by omega), wI_id (by omega), stx_ok (by omega), Option.bind_some, stx_ok (by omega), Option.bind_some, zN_1, show (36 + 3 * y + w).toNat = 36 + (3 * y + w).toNat by omega]
theorem Sk_set2 {ν : Mem} {b j b' j' : Nat} {w w' : Int} (h : 0 < ν 61 23) (hb : 68 ≤ b ∧ b ≤ 73) (hb' : 68 ≤ b' ∧ b' ≤ 73) : Sk ν (signR (mset (mset ν b j w) b' j' w')) := Sk.tr ((FrM.rf.set (by omega)).set (by omega)) ((Off.rf.set (Or.inr hb)).set (Or.inr hb')) (Sk.sign (by rw [mset_ne (by omega), mset_ne (by omega)]; exact h))
theorem skT {y w : Int} {ν : Mem} (h : 0 < ν 61 23) (hy : 0 ≤ y ∧ y ≤ 20) (hw : 0 ≤ w ∧ w ≤ 2) : Sk ν ((pT y w ν).bind signR) := by
  rw [pT_eq hy hw (readNumber_sick h), Option.bind_some]
  exact Sk_set h (by omega)
theorem skR {y w : Int} {ν : Mem} (h : 0 < ν 61 23) (hy : 0 ≤ y ∧ y ≤ 20) (hw : 0 ≤ w ∧ w ≤ 2) : Sk ν ((pR y w ν).bind signR) := by
  rw [pR_eq hy hw (readNumber_sick h), Option.bind_some]
  exact Sk_set2 h (by omega) (by omega)
theorem L_toll {B : Int → Int} {n : Int} {μ ν : Mem} (H : Rdy B n μ ν) (hD : DD μ ν) : Out B n μ ν (rea_takeToll μ) ((mod_readLineOf 4 ν).bind signR) := by
  obtain ⟨u, μ1, u', ν1, k1, k2, k3, k4, k5, k6⟩ := L_ryard H hD
  refine Out.tr k3.yrd k4.zrf k5 ?_
  rw [rea_takeToll.eq_1, k1, Option.bind_some, rl4, k2, Option.bind_some]
  dsimp only
  rcases k6 with ⟨q1, q2, q3, q4, q5, q6⟩ | ⟨q1, q2, q3⟩
  · obtain ⟨v, μ2, v', ν2, x1, x2, x3, x4, x5, x6⟩ := L_rnum 0 2 q3
    have D2 := q4.tok x3 x4
    refine Out.tr x3.my.yrd x4.mz.zrf x5 ?_
    rw [if_pos q1.1, takeWidth_eq, x1, Option.bind_some, x2, Option.bind_some]
    dsimp only
    rcases x6 with ⟨p1, p2, p3⟩ | ⟨p1, p2, p3⟩
    · obtain ⟨t, μ3, t', ν3, y1, y2, y3, y4, y5, y6⟩ := L_rnum 0 9 p3
      have D3 := D2.tok y3 y4
      refine Out.tr y3.my.yrd y4.mz.zrf y5 ?_
      rw [if_pos p1.1, y1, Option.bind_some, q2, p2, pT_eq q1 p1 y2, Option.bind_some]
      dsimp only
      rcases y6 with ⟨r1, r2, r3⟩ | ⟨r1, r2, r3⟩
      · rw [if_pos r1.1, rut_eq (by omega), Option.bind_some, put_st (by omega), r2]
        refine Out.tr (Off.rf.set (by unfold Mrd; omega)) (Off.rf.set (by unfold Mrf; omega)) (by rw [mset_ne (by omega)]; exact Int.le_refl _) (Out_sign (fr_rdy (by omega) (by omega) r3) ?_)
        refine DD.utol (Off.rf.set rfl) (Off.rf.set rfl) ?_ D3
        intro i i1 i2
        rw [mset_ap, mset_ap]
        by_cases e : i = 3 * u + v
        · rw [if_pos ⟨rfl, by rw [e]⟩, if_pos ⟨rfl, by rw [e]⟩]; omega
        · rw [if_neg (by omega), if_neg (by omega)]; exact D3.d6 i i1 i2
      · rw [if_neg (by omega)]
        exact Out_bad r3 (Sk_set r3.1 (by omega))
    · rw [if_neg (by omega), q2, p2]
      exact Out_bad p3 (skT p3.1 q1 (by omega))
  · rw [if_neg (by omega), q2, readNumber_sick q3.1, Option.bind_some]
    exact Out_bad q3 (skT q3.1 (by omega) (by omega))
theorem S_toll {B : Int → Int} {n : Int} {μ ν : Mem} (H : Rdy B n μ ν) (h : 0 < ν 61 23) : Out B n μ ν (rea_takeToll μ) (some ν) := by
  obtain ⟨μ1, k1, k2, k3, k4⟩ := yard_sick H h
  rw [rea_takeToll.eq_1, k1, Option.bind_some]
  dsimp only
  rw [if_neg (by omega)]
  exact Out_fail k2 k3 k4
theorem n_rut {μ ν : Mem} {k : Nat} {x t : Int} (hk : k < 63) (H : dc_12 μ ν) : dc_12 (mset (mset μ 31 k x) 25 10 (lOr (μ 25 10) (lShl 1 (k : Int)))) (mset (mset ν 68 (36 + k) t) 73 k 1) := by
  obtain ⟨b, b1, b2, b3⟩ := H
  obtain ⟨g, g1, g2, g3⟩ := lSet (b := b) (i := k) (by omega) hk
  refine ⟨g, by rw [mset_same, b1, g1], ?_, fun i hi => ?_⟩
  · rw [g2]; exact Nat.or_lt_two_pow (n := 63) b2 (Nat.pow_lt_pow_right (by omega) hk)
  · rw [g3, mset_ap, mset_ne (by omega)]
    by_cases z : i = k
    · subst z; simp
    · rw [if_neg (by omega), decide_eq_false z, Bool.or_false]; exact b3 i hi
theorem L_rut {B : Int → Int} {n : Int} {μ ν : Mem} (H : Rdy B n μ ν) (hD : DD μ ν) : Out B n μ ν (rea_takeRut μ) ((mod_readLineOf 5 ν).bind signR) := by
  obtain ⟨u, μ1, u', ν1, k1, k2, k3, k4, k5, k6⟩ := L_ryard H hD
  refine Out.tr k3.yrd k4.zrf k5 ?_
  rw [rea_takeRut.eq_1, k1, Option.bind_some, rl5, k2, Option.bind_some]
  dsimp only
  rcases k6 with ⟨q1, q2, q3, q4, q5, q6⟩ | ⟨q1, q2, q3⟩
  · obtain ⟨v, μ2, v', ν2, x1, x2, x3, x4, x5, x6⟩ := L_rnum 0 2 q3
    have D2 := q4.tok x3 x4
    refine Out.tr x3.my.yrd x4.mz.zrf x5 ?_
    rw [if_pos q1.1, takeWidth_eq, x1, Option.bind_some, x2, Option.bind_some]
    dsimp only
    rcases x6 with ⟨p1, p2, p3⟩ | ⟨p1, p2, p3⟩
    · obtain ⟨t, μ3, t', ν3, y1, y2, y3, y4, y5, y6⟩ := L_rnum 0 99 p3
      have D3 := D2.tok y3 y4
      refine Out.tr y3.my.yrd y4.mz.zrf y5 ?_
      rw [if_pos p1.1, y1, Option.bind_some, q2, p2, pR_eq q1 p1 y2, Option.bind_some]
      dsimp only
      rcases y6 with ⟨r1, r2, r3⟩ | ⟨r1, r2, r3⟩
      · obtain ⟨k, hk⟩ : ∃ k : Nat, 3 * u + v = (k : Int) := ⟨(3 * u + v).toNat, by omega⟩
        have e11 : μ3 25 11 = μ1 25 11 := by rw [y3 25 11 (by unfold M25; omega), x3 25 11 (by unfold M25; omega)]
        rw [if_pos r1.1, rut_eq (by omega), Option.bind_some, put_st (by omega), rut_eq (by omega), Option.bind_some, bnd.eq_1, mset_ne (k' := 25) (i' := 10) (by omega), r2, hk, Int.toNat_natCast]
        refine Out.tr ((Off.rf.set (by unfold Mrd; omega)).set (by unfold Mrd; omega)) ((Off.rf.set (by unfold Mrf; omega)).set (by unfold Mrf; omega)) (by rw [mset_ne (by omega), mset_ne (by omega)]; exact Int.le_refl _) (Out_sign (r3.fr ((FrC.rf.set (by omega)).set (by omega)) ((FrM.rf.set (by omega)).set (by omega))) ?_)
        refine DD.urut ((Off.rf.set (Or.inl rfl)).set (Or.inr ⟨rfl, rfl⟩)) ((Off.rf.set (Or.inl ⟨rfl, by omega, by omega⟩)).set (Or.inr rfl)) ?_ (n_rut (by omega) D3.d12) ?_ D3
        · intro i i1 i2
          rw [mset_ne (k' := 31) (by omega), mset_ne (k' := 68) (by omega), mset_ap, mset_ap]
          by_cases e : i = (k : Int)
          · rw [if_pos ⟨rfl, by omega⟩, if_pos ⟨rfl, by omega⟩]; omega
          · rw [if_neg (by omega), if_neg (by omega)]; exact D3.d7 i i1 i2
        · intro i i1 i2
          rw [mset_ne (by omega), mset_ne (by omega), e11]
          rw [mset_ap, mset_ne (by omega)] at i2
          by_cases e : i = k
          · omega
          · rw [if_neg (by omega)] at i2
            have := D3.d15 i i1 i2
            omega
      · rw [if_neg (by omega)]
        exact Out_bad r3 (Sk_set2 r3.1 (by omega) (by omega))
    · rw [if_neg (by omega), q2, p2]
      exact Out_bad p3 (skR p3.1 q1 (by omega))
  · rw [if_neg (by omega), q2, readNumber_sick q3.1, Option.bind_some]
    exact Out_bad q3 (skR q3.1 (by omega) (by omega))
theorem S_rut {B : Int → Int} {n : Int} {μ ν : Mem} (H : Rdy B n μ ν) (h : 0 < ν 61 23) : Out B n μ ν (rea_takeRut μ) (some ν) := by
  obtain ⟨μ1, k1, k2, k3, k4⟩ := yard_sick H h
  rw [rea_takeRut.eq_1, k1, Option.bind_some]
  dsimp only
  rw [if_neg (by omega)]
  exact Out_fail k2 k3 k4
/-! ===== text: frost and cost ===== -/
theorem rl6 (ν : Mem) : mod_readLineOf 6 ν = (mod_looked 1 60 ν).bind fun u1 => (ld u1.2 68 185 (wI (99 + u1.1))).bind fun v2 => if v2 = 0 then (mod_readOther_32 u1.1 1 u1.2) else (mod_readOther_32 u1.1 0 u1.2) := by
  rw [mod_readLineOf.eq_1, if_neg (by omega), if_neg (by omega), if_neg (by omega), if_neg (by omega), if_neg (by omega), if_neg (by omega), bse, mod_readOther.eq_1, if_pos rfl]
theorem rl8 (ν : Mem) : mod_readLineOf 8 ν = (mod_looked 1 7 ν).bind fun u3 => if (iAnd (iShr (u3.2 61 15) u3.1) 1) = 0 then (mod_readOther_84 u3.1 1 u3.2) else (mod_readOther_84 u3.1 0 u3.2) := by
  rw [mod_readLineOf.eq_1, if_neg (by omega), if_neg (by omega), if_neg (by omega), if_neg (by omega), if_neg (by omega), if_neg (by omega), bse, mod_readOther.eq_1, if_neg (by omega), if_pos rfl]
theorem s32 {y s : Int} {ν : Mem} (h : 0 < ν 61 23) (hy : 0 ≤ y ∧ y ≤ 60) : mod_readOther_32 y s ν = some (mset ν 68 (99 + y).toNat 1) := by
  rw [mod_readOther_32.eq_1, needs_sick h, Option.bind_some, wI_id (by omega), stx_ok (by omega), Option.bind_some, mnext_sick (by rw [mset_ne (by omega)]; exact h), Option.bind_some]
theorem r32 {y : Int} {ν : Mem} (h : ν 61 23 = 0) : mod_readOther_32 y 0 ν = mod_readOther_32 y 1 (sickM ν 4) := by
  rw [mod_readOther_32.eq_1, mod_readOther_32.eq_1, needs0 h, needs1]; rfl
theorem c_frost {μ ν : Mem} {k : Nat} (hk : k < 61) (H : dc_9 μ ν) : roa_isFrost 27 μ (k : Int) = some (if ν 68 (99 + k) = 1 then 1 else 0) ∧ (ν 68 (99 + k) = 0 ∨ ν 68 (99 + k) = 1) := by
  obtain ⟨b, b1, b2, b3⟩ := H
  have b4 := b3 k hk
  refine ⟨?_, b4.1⟩
  unfold roa_isFrost
  rw [b1, lBit (by omega) (by omega), b4.2]
  by_cases z : ν 68 (99 + k) = 1 <;> simp [z, lCmp0]
theorem n_frost {μ ν : Mem} {k g b : Nat} (hk : k < 61) (hg : g < 2305843009213693952) (h3 : ∀ i : Nat, g.testBit i = if i = k then decide ((1 : Int) = 1) else b.testBit i) (b1 : μ 27 8 = (b : Int)) (b3 : ∀ i : Nat, i < 61 → (ν 68 (99 + i) = 0 ∨ ν 68 (99 + i) = 1) ∧ b.testBit i = decide (ν 68 (99 + i) = 1)) : dc_9 (mset μ 27 8 (g : Int)) (mset ν 68 (99 + k) 1) := by
  refine ⟨g, mset_same, hg, fun i hi => ?_⟩
  rw [h3, mset_ap]
  by_cases z : i = k
  · subst z; simp
  · rw [if_neg (by omega), if_neg z]; exact b3 i hi
theorem L_frost {B : Int → Int} {n : Int} {μ ν : Mem} (H : Rdy B n μ ν) (hD : DD μ ν) : Out B n μ ν (rea_takeFrost μ) ((mod_readLineOf 6 ν).bind signR) := by
  obtain ⟨u, μ1, w, ν1, k1, k2, k3, k4, k5, k6⟩ := L_num 1 60 H
  refine Out.tr k3.my.yrd k4.mz.zrf k5 ?_
  have q4 := hD.tok k3 k4
  rw [rea_takeFrost.eq_1, k1, Option.bind_some, rl6, k2, Option.bind_some]
  dsimp only
  rcases k6 with ⟨q1, q2, q3⟩ | ⟨q1, q2, q3⟩
  · obtain ⟨k, rfl⟩ : ∃ k : Nat, u = (k : Int) := ⟨u.toNat, by omega⟩
    obtain ⟨c1, c2⟩ := c_frost (k := k) (by omega) q4.d9
    rw [if_pos (by omega), c1, q2, wI_id (by omega), ld_ok (by omega), show (99 + (k : Int)).toNat = 99 + k by omega]
    by_cases z : ν1 68 (99 + k) = 1
    · rw [tT z, Option.bind_some, if_neg (by omega), r32 q3.2.2.2.1, s32 sick4 (by omega), Option.bind_some]
      exact Out_refuse q3 (by omega) (Sk_set sick4 (by omega))
    · obtain ⟨b, b1, b2, b3⟩ := q4.d9
      obtain ⟨g, g1, g2, g3⟩ := setFrost_eq (x := 1) b1 b2 (show k < 61 by omega) (Or.inr rfl)
      rw [tF z, Option.bind_some, if_pos (by omega), g1, Option.bind_some]
      obtain ⟨ν2, x1, x2, x3⟩ := L_next (fr_had (a := 27) (i := 8) (v := (g : Int)) (b := 68) (j := 99 + k) (w := 1) (by omega) (by omega) q3)
      rw [mod_readOther_32.eq_1, needs1, Option.bind_some, wI_id (by omega), stx_ok (by omega), Option.bind_some, show (99 + (k : Int)).toNat = 99 + k by omega, x1, Option.bind_some, Option.bind_some]
      refine Out.tr (Off.rf.set (by unfold Mrd; omega)) ((Off.rf.set (by unfold Mrf; omega)).tr x2.mz.zrf) (by rw [mset_ne (by omega)]; exact Int.le_refl _) (Out_sign x3 ?_)
      exact (DD.ufro (Off.rf.set ⟨rfl, rfl⟩) (Off.rf.set ⟨rfl, by omega, by omega⟩) (n_frost (by omega) g2 g3 b1 b3) q4).tok Off.rf x2
  · rw [if_neg (by omega), q2, wI_id (by omega), ld_ok (by omega), Option.bind_some]
    refine Out_bad q3 ?_
    by_cases z : ν1 68 (99 + (0 : Int)).toNat = 0
    · rw [if_pos z, s32 q3.1 (by omega), Option.bind_some]; exact Sk_set q3.1 (by omega)
    · rw [if_neg z, s32 q3.1 (by omega), Option.bind_some]; exact Sk_set q3.1 (by omega)
theorem S_frost {B : Int → Int} {n : Int} {μ ν : Mem} (H : Rdy B n μ ν) (h : 0 < ν 61 23) : Out B n μ ν (rea_takeFrost μ) (some ν) := by
  obtain ⟨μ1, k1, k2, k3, k4⟩ := num_sick 1 60 H h
  rw [rea_takeFrost.eq_1, k1, Option.bind_some]
  dsimp only
  rw [if_neg (by omega)]
  exact Out_fail k2.my k3 k4
theorem s84 {y s : Int} {ν : Mem} (h : 0 < ν 61 23) (hy : 0 ≤ y ∧ y ≤ 7) : mod_readOther_84 y s ν = some (mset (mset ν 61 15 (iOr (ν 61 15) (iShl 1 y))) 68 (160 + y).toNat 0) := by
  have h' : 0 < mset ν 61 15 (iOr (ν 61 15) (iShl 1 y)) 61 23 := by rw [mset_ne (by omega)]; exact h
  rw [mod_readOther_84.eq_1, needs_sick h, Option.bind_some, bnd.eq_1, mnext_sick h', Option.bind_some, readNumber_sick h', Option.bind_some]
  dsimp only
  rw [wI_id (by omega), stx_ok (by omega), Option.bind_some]
theorem Sk_84 {ν : Mem} {j : Nat} {v w : Int} (h : 0 < ν 61 23) : Sk ν (signR (mset (mset ν 61 15 v) 68 j w)) := Sk.tr ((FrM.rf.set (by omega)).set (by omega)) ((Off.rf.set (by unfold Mrf; omega)).set (by unfold Mrf; omega)) (Sk.sign (by rw [mset_ne (by omega), mset_ne (by omega)]; exact h))
theorem r84 {y : Int} {ν : Mem} (h : ν 61 23 = 0) : mod_readOther_84 y 0 ν = mod_readOther_84 y 1 (sickM ν 4) := by
  rw [mod_readOther_84.eq_1, mod_readOther_84.eq_1, needs0 h, needs1]; rfl
theorem L_cost {B : Int → Int} {n : Int} {μ ν : Mem} (H : Rdy B n μ ν) (hD : DD μ ν) : Out B n μ ν (rea_takeCost μ) ((mod_readLineOf 8 ν).bind signR) := by
  obtain ⟨u, μ1, w, ν1, k1, k2, k3, k4, k5, k6⟩ := L_num 1 7 H
  refine Out.tr k3.my.yrd k4.mz.zrf k5 ?_
  have q4 := hD.tok k3 k4
  rw [rea_takeCost.eq_1, k1, Option.bind_some, rl8, k2, Option.bind_some]
  dsimp only
  rcases k6 with ⟨q1, q2, q3⟩ | ⟨q1, q2, q3⟩
  · have e9 : μ1 25 9 = ν1 61 15 := q4.d11
    have ce : iAnd (iShr (μ1 25 9) u) 1 = iAnd (iShr (ν1 61 15) u) 1 := by rw [e9]
    rw [if_pos (by omega), q2]
    by_cases z : iAnd (iShr (ν1 61 15) u) 1 = 0
    · have hf : Had B n μ1 (mset ν1 61 15 (iOr (ν1 61 15) (iShl 1 u))) := q3.fr FrC.rf (FrM.rf.set (by omega))
      obtain ⟨ν2, x1, x2, x3⟩ := L_next hf
      obtain ⟨v, μ3, t, ν3, y1, y2, y3, y4, y5, y6⟩ := L_rnum 0 60 x3
      have o1 : Off Mrf ν1 (mset ν1 61 15 (iOr (ν1 61 15) (iShl 1 u))) := Off.rf.set (by unfold Mrf; omega)
      have on : Off Q_cst ν1 ν3 := ((Off.rf.set (by unfold Q_cst; omega) : Off Q_cst ν1 (mset ν1 61 15 (iOr (ν1 61 15) (iShl 1 u)))).tr (x2.mono (fun a j z => Or.inl z))).tr (y4.mono (fun a j z => Or.inl z))
      have oc : Off P_cst μ1 μ3 := y3.mono (fun a j z => Or.inl z)
      rw [if_pos (ce.trans z), if_pos z, y1, Option.bind_some, mod_readOther_84.eq_1, needs1, Option.bind_some, bnd.eq_1, x1, Option.bind_some, y2, Option.bind_some]
      dsimp only
      rw [wI_id (by omega), stx_ok (by omega), Option.bind_some, Option.bind_some]
      rcases y6 with ⟨p1, p2, p3⟩ | ⟨p1, p2, p3⟩
      · rw [if_pos p1.1, put_st (by omega), bnd.eq_1, p2]
        refine Out.tr (((y3.my.yrd).set (by unfold Mrd; omega)).set (by unfold Mrd; omega)) (((o1.tr x2.mz.zrf).tr y4.mz.zrf).set (by unfold Mrf; omega)) (by rw [mset_ne (by omega), mset_ne (by omega)]; exact y5) (Out_sign (p3.fr ((FrC.rf.set (by omega)).set (by omega)) (FrM.rf.set (by omega))) ?_)
        refine DD.ucst ((oc.set (by unfold P_cst; omega)).set (by unfold P_cst; omega)) (on.set (by unfold Q_cst; omega)) ?_ ?_ q4
        · intro i i1 i2
          rw [mset_ne (by omega), mset_ap, mset_ap]
          by_cases e : i = u
          · rw [if_pos ⟨rfl, by rw [e]⟩, if_pos ⟨rfl, by omega⟩]; omega
          · rw [if_neg (by omega), if_neg (by omega), y3 33 _ (by unfold M25; omega), y4 68 _ (by unfold M61; omega), x2 68 _ (by unfold M61; omega), mset_ne (by omega)]
            exact q4.d8 i i1 i2
        · show mset (mset μ3 33 u.toNat v) 25 9 _ 25 9 = _
          rw [mset_same, mset_ne (by omega), mset_ne (by omega), y3 25 9 (by unfold M25; omega), y4 61 15 (by unfold M61; omega), x2 61 15 (by unfold M61; omega), mset_same, e9]
      · rw [if_neg (by omega)]
        exact Out.tr y3.my.yrd ((o1.tr x2.mz.zrf).tr y4.mz.zrf) y5 (Out_bad p3 (Sk_set p3.1 (by omega)))
    · rw [if_neg (fun q => z (ce.symm.trans q)), if_neg z, r84 q3.2.2.2.1, s84 sick4 (by omega), Option.bind_some]
      exact Out_refuse q3 (by omega) (Sk_84 sick4)
  · rw [if_neg (by omega), q2]
    refine Out_bad q3 ?_
    by_cases z : iAnd (iShr (ν1 61 15) 0) 1 = 0
    · rw [if_pos z, s84 q3.1 (by omega), Option.bind_some]; exact Sk_84 q3.1
    · rw [if_neg z, s84 q3.1 (by omega), Option.bind_some]; exact Sk_84 q3.1
theorem S_cost {B : Int → Int} {n : Int} {μ ν : Mem} (H : Rdy B n μ ν) (h : 0 < ν 61 23) : Out B n μ ν (rea_takeCost μ) (some ν) := by
  obtain ⟨μ1, k1, k2, k3, k4⟩ := num_sick 1 7 H h
  rw [rea_takeCost.eq_1, k1, Option.bind_some]
  dsimp only
  rw [if_neg (by omega)]
  exact Out_fail k2.my k3 k4
