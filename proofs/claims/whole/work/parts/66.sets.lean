/-! ===== the calls that set a number of the road ===== -/
theorem Inv.R {μ : Mem} (H : Inv μ) : RC μ 1 (mR μ 0) ∧ MC μ 0 (mR μ 0) ∧ Ok (mR μ 0) ∧ (0 ≤ mR μ 0 0 2 ∧ mR μ 0 0 2 ≤ 8) := ⟨H.1.1, MC_mR μ 0, H.1.2, H.1.2.1.2.2.2.2.1, H.1.2.1.2.2.2.2.2⟩
theorem MC.off {μ μ' : Mem} {o : Nat} {R : Rd} (h1 : μ' 61 2 = μ 61 2) (h : ∀ a, 62 ≤ a → a ≤ 67 → a ≠ 63 → μ' a = μ a) (H : MC μ o R) : MC μ' o R := by
  unfold MC at H ⊢
  rw [h1, h 62 (by omega) (by omega) (by omega), h 64 (by omega) (by omega) (by omega), h 65 (by omega) (by omega) (by omega), h 66 (by omega) (by omega) (by omega), h 67 (by omega) (by omega) (by omega)]
  exact H
theorem RC.off {μ μ' : Mem} {r : Nat} {R : Rd} (h : ∀ a, r ≤ a → a ≤ r + 7 → μ' a = μ a) (H : RC μ r R) : RC μ' r R := RC_congr (fun j _ _ => by rw [h r (by omega) (by omega)]) (fun a h1 h2 => h a (by omega) h2) H
def pdM (μ : Mem) : Mem := mset (mset μ 46 4 0) 46 5 0
theorem pd_off (μ : Mem) (a : Nat) (h : a ≠ 46) : pdM μ a = μ a := by unfold pdM; rw [mset_off h, mset_off h]
theorem drop_eq (μ : Mem) : pla_drop μ = some (pdM μ) := rfl
theorem pd_Off (μ : Mem) : Off Rdw μ (pdM μ) := (Off.rf.set (by unfold Rdw; omega)).set (by unfold Rdw; omega)
theorem pd_flags (μ : Mem) : pdM μ 46 4 = 0 ∧ pdM μ 46 5 = 0 := by unfold pdM; simp [mset_ap]
theorem RC.pd {μ : Mem} {R : Rd} (H : RC μ 1 R) : RC (pdM μ) 1 R := H.off (fun a _ _ => pd_off μ a (by omega))
theorem MC.pd {μ : Mem} {R : Rd} (H : MC μ 0 R) : MC (pdM μ) 0 R := H.off (by rw [pd_off _ _ (by omega)]) (fun a _ _ _ => pd_off μ a (by omega))
theorem MC.cls {μ : Mem} {o a i : Nat} {v : Int} {R : Rd} (ha : a ≤ 60) (H : MC μ o R) : MC (mset μ a i v) o R := H.off (by rw [mset_off (by omega)]) (fun b _ _ _ => mset_off (by omega))
theorem RC.mod {μ : Mem} {r a i : Nat} {v : Int} {R : Rd} (ha : r + 7 < a) (H : RC μ r R) : RC (mset μ a i v) r R := H.off (fun b _ _ => mset_off (by omega))
/-- what one row's change on both sides, plans dropped, keeps -/
theorem Inv.chg {μ : Mem} (H : Inv μ) {R : Rd} {a i j : Nat} {v w : Int} (ha : 1 ≤ a ∧ a ≤ 8) (hj : j < 185) (h1 : RC (mset (pdM μ) a i v) 1 R) (h2 : MC (mset (mset (pdM μ) a i v) 62 j w) 0 R) (h3 : Ok R) : Inv (mset (mset (pdM μ) a i v) 62 j w) := by
  refine Inv.road (R := R) (((pd_Off μ).set (by unfold Rdw; omega)).set (by unfold Rdw; omega)) (h1.mod (by omega)) h2 h3 (Icache.dropped ?_ ?_) H
  · rw [mset_off (by omega), mset_off (by omega)]; exact (pd_flags μ).1
  · rw [mset_off (by omega), mset_off (by omega)]; exact (pd_flags μ).2
theorem E_dig_ok : E_dig Inv := by
  intro μ H x1 x2 x3 g1 g2 g3
  obtain ⟨c1, c2, c3, c4, c5, c6⟩ := H.c
  obtain ⟨hR, hM, hO, hT⟩ := H.R
  by_cases h1 : 0 ≤ x1 ∧ x1 ≤ μ 61 2
  · by_cases h2 : 0 ≤ x2 ∧ x2 ≤ 2
    · by_cases h3 : 0 ≤ x3 ∧ x3 ≤ 99
      · have hl := H.hill (y := x1) (by omega)
        by_cases h4 : μ 65 x1.toNat = -4 ∨ μ 65 x1.toNat = x2
        · have hk : 0 ≤ 3 * x1 + x2 ∧ 3 * x1 + x2 < 63 := by omega
          obtain ⟨d1, d2⟩ := H.dep hk
          refine ⟨μ 5 (3 * x1 + x2).toNat, mset (pdM μ) 5 (3 * x1 + x2).toNat x3, mset (mset (pdM μ) 5 (3 * x1 + x2).toNat x3) 62 (0 + 36 + (3 * x1 + x2).toNat) x3, ?_, ?_, ?_⟩
          · unfold ww_dig
            rw [hasYard_eq, c1, tT h1, isWidth_eq, tT h2, if_neg (by omega), if_pos h3.2, hasRut_eq (by omega), show μ (1 + 1) x1.toNat = μ 65 x1.toNat from hl.1, tT ⟨by omega, h2, h4⟩, drop_eq, Option.bind_some, rut_eq (by omega), Option.bind_some, swap_in hk, Option.bind_some, pd_off _ _ (by omega)]
          · have q : ∀ b, 61 ≤ b → mset (pdM μ) 5 (3 * x1 + x2).toNat x3 b = μ b := fun b hb => by rw [mset_off (by omega), pd_off _ _ (by omega)]
            have e1 : (wI (wI (36 + wI (3 * x1)) + x2)) = 36 + (3 * x1 + x2) := by rw [wI_id (x := 3 * x1) (by omega), wI_id (x := 36 + 3 * x1) (by omega), wI_id (by omega)]; omega
            unfold mod_dig
            rw [mIsYard_eq, q 61 (by omega), tT h1, mIsWidth_eq, tT h2, in_eq, tT h3, mHasRut_eq (by omega), q 65 (by omega), tT h4, e1, ld_ok (by omega), Option.bind_some, stx_ok (by omega), Option.bind_some, q 62 (by omega), show (36 + (3 * x1 + x2)).toNat = 0 + 36 + (3 * x1 + x2).toNat by omega, d1]
          · exact H.chg (by omega) (by omega) (RC.set5 (r := 1) hk.1 hR.pd) ((MC.set5 hk hT (hM.pd.cls (by omega)))) (hO.set5 h3)
        · refine ⟨-2, μ, μ, ?_, ?_, H⟩
          · unfold ww_dig
            rw [hasYard_eq, c1, tT h1, isWidth_eq, tT h2, if_neg (by omega), if_pos h3.2, hasRut_eq (by omega), show μ (1 + 1) x1.toNat = μ 65 x1.toNat from hl.1, tF (fun z => h4 z.2.2)]
          · unfold mod_dig
            rw [mIsYard_eq, tT h1, mIsWidth_eq, tT h2, in_eq, tT h3, mHasRut_eq (by omega), tF h4]
      · refine ⟨-1, μ, μ, ?_, ?_, H⟩
        · unfold ww_dig
          rw [hasYard_eq, c1, tT h1, isWidth_eq, tT h2]
          by_cases h0 : x3 < 0
          · rw [if_pos h0]
          · rw [if_neg h0, if_neg (by omega)]
        · unfold mod_dig
          rw [mIsYard_eq, tT h1, mIsWidth_eq, tT h2, in_eq, tF h3]
    · refine ⟨-1, μ, μ, ?_, ?_, H⟩
      · unfold ww_dig
        rw [hasYard_eq, c1, tT h1, isWidth_eq, tF h2]
      · unfold mod_dig
        rw [mIsYard_eq, tT h1, mIsWidth_eq, tF h2]
  · refine ⟨-1, μ, μ, ?_, ?_, H⟩
    · unfold ww_dig
      rw [hasYard_eq, c1, tF h1]
    · unfold mod_dig
      rw [mIsYard_eq, tF h1]
/-- a part of a cart in its bounds -/
def Pok (R : Rd) (k v : Int) : Prop := (k = 1 ∧ 0 ≤ v ∧ v ≤ 2) ∨ (k = 2 ∧ 1 ≤ v ∧ v ≤ 9)
theorem Ok.setP {R : Rd} {c k v : Int} (hk : 0 ≤ k ∧ k < 7) (hv : Pok R k v) (H : Ok R) : Ok (uq R 6 (7 * c + k) v) := by
  obtain ⟨a, b, c', d, e, f, g, h7, h8, h9⟩ := H
  refine ⟨by rw [uq_ap, uq_ap, uq_ap, if_neg (by omega), if_neg (by omega), if_neg (by omega)]; exact a, fun j h1 h2 => by rw [uq_ap, if_neg (by omega)]; exact b j h1 h2, fun j h1 h2 => by rw [uq_ap, if_neg (by omega)]; exact c' j h1 h2, fun j h1 h2 => by rw [uq_ap, if_neg (by omega)]; exact d j h1 h2, fun j h1 h2 => by rw [uq_ap, if_neg (by omega)]; exact e j h1 h2, fun j h1 h2 => by rw [uq_ap, if_neg (by omega)]; exact f j h1 h2, fun j h1 h2 => ?_, fun j h1 h2 => by rw [uq_ap, if_neg (by omega)]; exact h7 j h1 h2, fun j h1 h2 => by rw [uq_ap, if_neg (by omega)]; exact h8 j h1 h2, fun j h1 h2 => ?_⟩
  · rw [uq_ap, if_neg (by omega)] at h2
    have := g j h1 h2
    unfold pt Pok at *
    simp only [uq_ap, true_and, show ¬ ((0 : Nat) = 6) by omega, false_and, if_false]
    grind
  · rw [uq_ap, if_neg (by omega)] at h2
    rw [uq_ap, uq_ap, uq_ap, if_neg (by omega), if_neg (by omega), if_neg (by omega)]; exact h9 j h1 h2
theorem swapPart_eq {r : Nat} {μ : Mem} {c k v : Int} (h : 0 ≤ c ∧ c < 5 ∧ 0 ≤ k ∧ k < 7) : roa_swapPart r c k v μ = some (μ (r + 5) (7 * c + k).toNat, mset μ (r + 5) (7 * c + k).toNat v) := by
  unfold roa_swapPart
  rw [wI_id (x := c * 7) (by omega), wI_id (by omega), show c * 7 + k = 7 * c + k by omega, swap_in (by omega)]; rfl
theorem E_shoe_ok : E_shoe Inv := by
  intro μ H x1 x2 g1 g2
  obtain ⟨c1, c2, c3, c4, c5, c6⟩ := H.c
  obtain ⟨hR, hM, hO, hT⟩ := H.R
  by_cases h1 : 0 ≤ x1 ∧ x1 < μ 62 0
  · by_cases h2 : 0 ≤ x2 ∧ x2 ≤ 2
    · have p0 := H.prt (c := x1) (k := 0) (by omega)
      have p1 := H.prt (c := x1) (k := 1) (by omega)
      by_cases h3 : μ 62 (0 + 1 + (7 * x1 + 0).toNat) = 3
      · refine ⟨-2, μ, μ, ?_, ?_, H⟩
        · unfold ww_shoe
          rw [hasCart_eq, c2, tT h1, isWidth_eq, tT h2, part_eq (by omega), Option.bind_some, show μ (1 + 5) (7 * x1 + 0).toNat = _ from p0, if_pos h3]
        · unfold mod_shoe
          rw [mIsCart_eq c5, tT h1, mIsWidth_eq, tT h2, of_eq (by omega), Option.bind_some, if_pos h3]
      · refine ⟨μ 6 (7 * x1 + 1).toNat, mset (pdM μ) 6 (7 * x1 + 1).toNat x2, mset (mset (pdM μ) 6 (7 * x1 + 1).toNat x2) 62 (0 + 1 + (7 * x1 + 1).toNat) x2, ?_, ?_, ?_⟩
        · unfold ww_shoe
          rw [hasCart_eq, c2, tT h1, isWidth_eq, tT h2, part_eq (by omega), Option.bind_some, show μ (1 + 5) (7 * x1 + 0).toNat = _ from p0, if_neg h3, drop_eq, Option.bind_some, swapPart_eq (by omega), Option.bind_some, pd_off _ _ (by omega)]
        · have q : ∀ b, 61 ≤ b → mset (pdM μ) 6 (7 * x1 + 1).toNat x2 b = μ b := fun b hb => by rw [mset_off (by omega), pd_off _ _ (by omega)]
          have e1 : (wI (wI (1 + wI (7 * x1)) + 1)) = 1 + (7 * x1 + 1) := by rw [wI_id (x := 7 * x1) (by omega), wI_id (x := 1 + 7 * x1) (by omega), wI_id (by omega)]; omega
          unfold mod_shoe
          rw [mIsCart_eq (by rw [q 62 (by omega)]; exact c5), q 62 (by omega), tT h1, mIsWidth_eq, tT h2, of_eq (by omega), q 62 (by omega), Option.bind_some, if_neg h3, of_eq (by omega), Option.bind_some, e1, stx_ok (by omega), Option.bind_some, q 62 (by omega), show (1 + (7 * x1 + 1)).toNat = 0 + 1 + (7 * x1 + 1).toNat by omega, p1]
        · exact H.chg (by omega) (by omega) (RC.set6 (r := 1) (by omega) hR.pd) ((MC.set6 (by omega) hT (hM.pd.cls (by omega)))) (hO.setP (by omega) (Or.inl ⟨rfl, h2⟩))
    · refine ⟨-1, μ, μ, ?_, ?_, H⟩
      · unfold ww_shoe
        rw [hasCart_eq, c2, tT h1, isWidth_eq, tF h2]
      · unfold mod_shoe
        rw [mIsCart_eq c5, tT h1, mIsWidth_eq, tF h2]
  · refine ⟨-1, μ, μ, ?_, ?_, H⟩
    · unfold ww_shoe
      rw [hasCart_eq, c2, tF h1]
    · unfold mod_shoe
      rw [mIsCart_eq c5, tF h1]
theorem least_2 (μ : Mem) : ww_atR ([0, 0, 1, 0, 0, 0, 0]) 90 μ 2 = some 1 := rfl
theorem most_2 (μ : Mem) : ww_atR ([4, 2, 9, 30, 20, 20, 20]) 91 μ 2 = some 9 := rfl
theorem E_load_ok : E_load Inv := by
  intro μ H x1 x2 g1 g2
  obtain ⟨c1, c2, c3, c4, c5, c6⟩ := H.c
  obtain ⟨hR, hM, hO, hT⟩ := H.R
  by_cases h1 : 0 ≤ x1 ∧ x1 < μ 62 0
  · by_cases h2 : 1 ≤ x2 ∧ x2 ≤ 9
    · have p1 := H.prt (c := x1) (k := 2) (by omega)
      refine ⟨μ 6 (7 * x1 + 2).toNat, mset (pdM μ) 6 (7 * x1 + 2).toNat x2, mset (mset (pdM μ) 6 (7 * x1 + 2).toNat x2) 62 (0 + 1 + (7 * x1 + 2).toNat) x2, ?_, ?_, ?_⟩
      · unfold ww_load
        rw [hasCart_eq, c2, tT h1, least_2, Option.bind_some, if_neg (by omega), most_2, Option.bind_some, if_pos h2.2, drop_eq, Option.bind_some, swapPart_eq (by omega), Option.bind_some, pd_off _ _ (by omega)]
      · have q : ∀ b, 61 ≤ b → mset (pdM μ) 6 (7 * x1 + 2).toNat x2 b = μ b := fun b hb => by rw [mset_off (by omega), pd_off _ _ (by omega)]
        have e1 : (wI (wI (1 + wI (7 * x1)) + 2)) = 1 + (7 * x1 + 2) := by rw [wI_id (x := 7 * x1) (by omega), wI_id (x := 1 + 7 * x1) (by omega), wI_id (by omega)]; omega
        unfold mod_load
        rw [mIsCart_eq (by rw [q 62 (by omega)]; exact c5), q 62 (by omega), tT h1, in_eq, tT h2, of_eq (by omega), Option.bind_some, e1, stx_ok (by omega), Option.bind_some, q 62 (by omega), show (1 + (7 * x1 + 2)).toNat = 0 + 1 + (7 * x1 + 2).toNat by omega, p1]
      · exact H.chg (by omega) (by omega) (RC.set6 (r := 1) (by omega) hR.pd) ((MC.set6 (by omega) hT (hM.pd.cls (by omega)))) (hO.setP (by omega) (Or.inr ⟨rfl, h2⟩))
    · refine ⟨-1, μ, μ, ?_, ?_, H⟩
      · unfold ww_load
        rw [hasCart_eq, c2, tT h1, least_2, Option.bind_some]
        by_cases h0 : x2 < 1
        · rw [if_pos h0]
        · rw [if_neg h0, most_2, Option.bind_some, if_neg (by omega)]
      · unfold mod_load
        rw [mIsCart_eq c5, tT h1, in_eq, tF h2]
  · refine ⟨-1, μ, μ, ?_, ?_, H⟩
    · unfold ww_load
      rw [hasCart_eq, c2, tF h1]
    · unfold mod_load
      rw [mIsCart_eq c5, tF h1]
