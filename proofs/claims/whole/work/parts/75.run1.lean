/-! ===== the reference's run ===== -/
theorem bmod_id {x : Int} (h : -2147483648 ≤ x ∧ x < 2147483648) : x.bmod (2 ^ 32) = x := by
  rw [Int.bmod_def]
  omega
theorem iDiv_eq {x y : Int} (hx : 0 ≤ x ∧ x < 2147483648) (hy : 0 < y ∧ y < 2147483648) : iDiv x y = x / y := by
  unfold iDiv
  have h1 : 0 ≤ x / y := Int.ediv_nonneg hx.1 (by omega)
  have h2 : x / y ≤ x := Int.ediv_le_self _ hx.1
  rw [Int32.toInt_div, i32_toInt ⟨by omega, hx.2⟩, i32_toInt ⟨by omega, hy.2⟩, Int.tdiv_eq_ediv_of_nonneg hx.1, bmod_id (by omega)]
theorem iRem_eq {x y : Int} (hx : 0 ≤ x ∧ x < 2147483648) (hy : 0 < y ∧ y < 2147483648) : iRem x y = x % y := by
  have h1 : 0 ≤ x / y := Int.ediv_nonneg hx.1 (by omega)
  have h2 : x / y ≤ x := Int.ediv_le_self _ hx.1
  have h3 : x / y * y ≤ x := Int.ediv_mul_le x (by omega)
  have h4 : 0 ≤ x / y * y := Int.mul_nonneg h1 (by omega)
  have h5 : (Int32.ofInt x / Int32.ofInt y).toInt = x / y := iDiv_eq hx hy
  unfold iRem
  rw [Int32.toInt_sub, Int32.toInt_mul, h5, i32_toInt ⟨by omega, hx.2⟩, i32_toInt ⟨by omega, hy.2⟩, bmod_id (x := x / y * y) (by omega), bmod_id (by omega), Int.emod_def, Int.mul_comm]
def RV (R S : Rd) (t : Int) : Prop := (∀ c : Int, 0 ≤ c → c < R 0 1 → (0 ≤ S 0 c ∧ S 0 c ≤ R 0 0) ∧ (0 ≤ S 1 c ∧ S 1 c ≤ 9 * t) ∧ (0 ≤ S 2 c ∧ S 2 c ≤ t) ∧ (S 3 c = -4 ↔ S 0 c ≠ pt R c 5) ∧ (S 3 c = -4 ∨ 1 ≤ S 3 c ∧ S 3 c ≤ 60)) ∧ (∀ k : Int, 0 ≤ k → k < 63 → 0 ≤ S 4 k ∧ S 4 k ≤ 99) ∧ 0 ≤ S 6 0 ∧ S 6 0 ≤ t
def RM (ν : Mem) (R S : Rd) : Prop := (∀ c : Int, 0 ≤ c → c < R 0 1 → ν 75 c.toNat = S 0 c ∧ ν 76 c.toNat = S 1 c ∧ ν 77 c.toNat = S 2 c ∧ ν 78 c.toNat = S 3 c) ∧ (∀ k : Int, 0 ≤ k → k < 63 → ν 79 k.toNat = S 4 k) ∧ ν 61 31 = S 5 0
def Rrun (a j : Nat) : Prop := (75 ≤ a ∧ a ≤ 79) ∨ (a = 61 ∧ j = 31)
theorem MCr.keep {ν ν' : Mem} {R : Rd} (h : Off Rrun ν ν') (H : MCr ν R) : MCr ν' R :=
  H.off (h _ _ (by unfold Rrun; omega)) (fun j _ => h _ _ (by unfold Rrun; omega)) (h.cell (by unfold Rrun; omega)) (h.cell (by unfold Rrun; omega)) (h.cell (by unfold Rrun; omega))
theorem mof {ν : Mem} {R : Rd} {c k : Int} (H : MCr ν R) (hc : 0 ≤ c ∧ c < 5) (hk : 0 ≤ k ∧ k < 7) : mod_of ν c k = some (pt R c k) := by
  rw [of_eq (by omega)]
  have := H.2.2.2.2.2.1 (7 * c + k) (by omega) (by omega)
  unfold pt
  rw [← this, Nat.zero_add]
theorem nxt_in {R S : Rd} {t c : Int} (hO : Okr R) (hV : RV R S t) (hc : 0 ≤ c ∧ c < R 0 1) (hne : S 0 c ≠ pt R c 5) : 0 ≤ nxt R S c ∧ nxt R S c ≤ R 0 0 := by
  have h1 := (hV.1 c hc.1 hc.2).1
  have h2 := (hO.2.2.2.2.2.1 c hc.1 hc.2).2.2.2.2.2.1
  unfold nxt
  split <;> omega
/-- one step of a cart keeps the bounds -/
theorem RV.move {R S : Rd} {t h c : Int} (hO : Okr R) (hV : RV R S t) (hc : 0 ≤ c ∧ c < R 0 1) (hh : 1 ≤ h ∧ h ≤ 60) (ht : 0 ≤ t) : RV R (moveP R h c S) (t + 1) := by
  have hw : ∀ t' : Int, t ≤ t' → RV R S t' := fun t' h' => ⟨fun d d1 d2 => by
    obtain ⟨a1, a2, a3, a4, a5⟩ := hV.1 d d1 d2
    exact ⟨a1, ⟨a2.1, by omega⟩, ⟨a3.1, by omega⟩, a4, a5⟩, hV.2.1, hV.2.2.1, by have := hV.2.2.2; omega⟩
  unfold moveP
  by_cases hg : goesP R S h c
  · rw [if_pos hg]
    have hn := nxt_in hO hV hc hg.1.1
    have hp := hO.2.2.2.2.2.1 c hc.1 hc.2
    have hr : 0 ≤ 3 * nxt R S c + pt R c 1 ∧ 3 * nxt R S c + pt R c 1 < 63 := by have := hO.1; omega
    have htl := hO.2.2.2.1 _ hr.1 hr.2
    unfold entP
    refine ⟨fun d d1 d2 => ?_, fun k k1 k2 => ?_, ?_, ?_⟩
    · simp only [uq_ap, show ¬ (0 : Nat) = 1 by omega, show ¬ (0 : Nat) = 3 by omega, show ¬ (0 : Nat) = 4 by omega, show ¬ (0 : Nat) = 6 by omega, show ¬ (1 : Nat) = 0 by omega, show ¬ (1 : Nat) = 3 by omega, show ¬ (1 : Nat) = 4 by omega, show ¬ (1 : Nat) = 6 by omega, show ¬ (2 : Nat) = 0 by omega, show ¬ (2 : Nat) = 1 by omega, show ¬ (2 : Nat) = 3 by omega, show ¬ (2 : Nat) = 4 by omega, show ¬ (2 : Nat) = 6 by omega, show ¬ (3 : Nat) = 0 by omega, show ¬ (3 : Nat) = 1 by omega, show ¬ (3 : Nat) = 4 by omega, show ¬ (3 : Nat) = 6 by omega, false_and, true_and, if_false]
      obtain ⟨a1, a2, a3, a4, a5⟩ := hV.1 d d1 d2
      by_cases z : d = c
      · subst z
        simp only [if_true]
        refine ⟨hn, ?_, by omega, ?_, ?_⟩
        · unfold tollP; split <;> omega
        · constructor
          · intro y; split at y
            · omega
            · assumption
          · intro y; rw [if_neg y]
        · split
          · right; exact hh
          · left; rfl
      · rw [if_neg z, if_neg z, if_neg z]
        exact ⟨a1, by omega, by omega, a4, a5⟩
    · simp only [uq_ap, show ¬ (4 : Nat) = 0 by omega, show ¬ (4 : Nat) = 1 by omega, show ¬ (4 : Nat) = 3 by omega, show ¬ (4 : Nat) = 6 by omega, false_and, true_and, if_false]
      have h4 := hV.2.1 k k1 k2
      by_cases z : k = 3 * nxt R S c + pt R c 1
      · rw [if_pos z]
        have h5 := hV.2.1 _ hr.1 hr.2
        have hm : 0 ≤ moreP R c := by
          unfold moreP; split
          · omega
          · split <;> omega
        unfold deepP; split <;> omega
      · rw [if_neg z]; exact h4
    · simp only [uq_ap]
      have := hV.2.2.1
      simp
      omega
    · simp only [uq_ap]
      have := hV.2.2.2
      simp
      omega
  · rw [if_neg hg]
    by_cases ha : actsP R S h c
    · rw [if_pos ha]
      unfold waitP
      refine ⟨fun d d1 d2 => ?_, fun k k1 k2 => ?_, ?_, ?_⟩
      · simp only [uq_ap, show ¬ (0 : Nat) = 2 by omega, show ¬ (0 : Nat) = 5 by omega, show ¬ (1 : Nat) = 2 by omega, show ¬ (1 : Nat) = 5 by omega, show ¬ (2 : Nat) = 5 by omega, show ¬ (3 : Nat) = 2 by omega, show ¬ (3 : Nat) = 5 by omega, false_and, true_and, if_false]
        obtain ⟨a1, a2, a3, a4, a5⟩ := hV.1 d d1 d2
        refine ⟨a1, by omega, ?_, a4, a5⟩
        split
        · next z => subst z; omega
        · omega
      · simp only [uq_ap, show ¬ (4 : Nat) = 2 by omega, show ¬ (4 : Nat) = 5 by omega, false_and, if_false]
        exact hV.2.1 k k1 k2
      · simp only [uq_ap, show ¬ (6 : Nat) = 2 by omega, show ¬ (6 : Nat) = 5 by omega, false_and, if_false]
        exact hV.2.2.1
      · simp only [uq_ap, show ¬ (6 : Nat) = 2 by omega, show ¬ (6 : Nat) = 5 by omega, false_and, if_false]
        have := hV.2.2.2; omega
    · rw [if_neg ha]
      exact hw _ (by omega)
/-! ===== who is in the way ===== -/
def badP (R S : Rd) (c y o : Int) : Prop := o ≠ c ∧ S 0 o = y ∧ S 0 o ≠ pt R o 5 ∧ (R 3 y = 1 ∨ pt R o 1 = pt R c 1)
theorem isFree_loop {ν : Mem} {R S : Rd} {c y : Int} (hM : MCr ν R) (hO : Okr R) (hS : RM ν R S) (hc : 0 ≤ c ∧ c < R 0 1) (hy : 0 ≤ y ∧ y < 21) : ∀ (m f : Nat) (o : Int), m < f → 0 ≤ o → o + m = R 0 1 → mod_isFree_5 ν f c y 0 o = some 0 ∧ ((∀ o' : Int, o ≤ o' → o' < R 0 1 → ¬ badP R S c y o') → mod_isFree_5 ν f c y 1 o = some 1) ∧ (¬ (∀ o' : Int, o ≤ o' → o' < R 0 1 → ¬ badP R S c y o') → mod_isFree_5 ν f c y 1 o = some 0) := by
  have hn : ν 62 0 = R 0 1 := hM.1.2
  have hb := hO.1
  intro m
  induction m with
  | zero =>
    intro f o hf h0 he
    obtain ⟨f, rfl⟩ : ∃ g, f = g + 1 := ⟨f - 1, by omega⟩
    rw [mod_isFree_5.eq_2, mod_isFree_5.eq_2, if_pos (by omega), if_pos (by omega), zN_0, zN_1]
    exact ⟨rfl, fun _ => rfl, fun h => absurd (fun o' h1 h2 => by omega) h⟩
  | succ m ih =>
    intro f o hf h0 he
    obtain ⟨f, rfl⟩ : ∃ g, f = g + 1 := ⟨f - 1, by omega⟩
    obtain ⟨i1, i2, i3⟩ := ih f (o + 1) (by omega) (by omega) (by omega)
    have e75 : ld ν 75 5 o = some (S 0 o) := by rw [ld_ok (by omega), (hS.1 o h0 (by omega)).1]
    have e64 : ld ν 64 21 y = some (R 3 y) := by rw [ld_ok (by omega), hM.2.2.1 y hy.1 hy.2]
    have p5 := mof (c := o) (k := 5) hM (by omega) (by omega)
    have p1 := mof (c := o) (k := 1) hM (by omega) (by omega)
    have p1c := mof (c := c) (k := 1) hM (by omega) (by omega)
    have b01 := hO.2.2.1 y hy.1 hy.2
    have s0 : mod_isFree_5 ν (f + 1) c y 0 o = mod_isFree_5 ν f c y 0 (o + 1) := by
      rw [mod_isFree_5.eq_2, if_neg (by omega), e75, p5]
      unfold mod_isFree_55 mod_isFree_96
      simp only [Option.bind_some, if_true, wI_id (x := o + 1) (by omega)]
      split
      · rfl
      · split
        · split <;> rfl
        · rfl
    have s1 : (badP R S c y o → mod_isFree_5 ν (f + 1) c y 1 o = mod_isFree_5 ν f c y 0 (o + 1)) ∧ (¬ badP R S c y o → mod_isFree_5 ν (f + 1) c y 1 o = mod_isFree_5 ν f c y 1 (o + 1)) := by
      rw [mod_isFree_5.eq_2, if_neg (by omega), e75, p5]
      unfold mod_isFree_55 mod_isFree_96 badP
      simp only [Option.bind_some, show ¬ (1 : Int) = 0 by omega, if_false, if_true, wI_id (x := o + 1) (by omega), e64, p1, p1c]
      by_cases z1 : o = c
      · rw [if_pos z1]
        exact ⟨fun h => absurd z1 h.1, fun _ => rfl⟩
      · rw [if_neg z1]
        by_cases z2 : S 0 o = y
        · rw [if_pos z2]
          by_cases z3 : S 0 o = pt R o 5
          · rw [if_pos z3]
            exact ⟨fun h => absurd z3 h.2.2.1, fun _ => rfl⟩
          · rw [if_neg z3]
            rcases b01 with b | b
            · rw [if_pos b]
              by_cases z4 : pt R o 1 = pt R c 1
              · rw [if_pos z4]
                exact ⟨fun _ => rfl, fun h => absurd ⟨z1, z2, z3, Or.inr z4⟩ h⟩
              · rw [if_neg z4]
                exact ⟨fun h => by have := h.2.2.2; omega, fun _ => rfl⟩
            · rw [if_neg (by omega)]
              exact ⟨fun _ => rfl, fun h => absurd ⟨z1, z2, z3, Or.inl b⟩ h⟩
        · rw [if_neg z2]
          exact ⟨fun h => absurd h.2.1 z2, fun _ => rfl⟩
    refine ⟨by rw [s0]; exact i1, fun h => ?_, fun h => ?_⟩
    · rw [s1.2 (h o (by omega) (by omega))]
      exact i2 (fun o' h1 h2 => h o' (by omega) h2)
    · by_cases z : badP R S c y o
      · rw [s1.1 z]; exact i1
      · rw [s1.2 z]
        refine i3 (fun q => h (fun o' h1 h2 => ?_))
        by_cases y : o' = o
        · rw [y]; exact z
        · exact q o' (by omega) h2
theorem isFree_eq {ν : Mem} {R S : Rd} {c y : Int} (hM : MCr ν R) (hO : Okr R) (hS : RM ν R S) (hc : 0 ≤ c ∧ c < R 0 1) (hy : 0 ≤ y ∧ y < 21) : (freeP R S c y → mod_isFree ν c y = some 1) ∧ (¬ freeP R S c y → mod_isFree ν c y = some 0) := by
  obtain ⟨n, hn⟩ : ∃ n : Nat, (n : Int) = R 0 1 := ⟨(R 0 1).toNat, by have := hO.1; omega⟩
  obtain ⟨i1, i2, i3⟩ := isFree_loop hM hO hS hc hy n BIG 0 (by have := BIG_gt; have := hO.1; omega) (by omega) (by omega)
  exact ⟨fun h => i2 (fun o h1 h2 => h o h1 h2), fun h => i3 (fun q => h (fun o h1 h2 => q o h1 h2))⟩
