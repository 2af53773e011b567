/-! ===== orders, whose ===== -/
theorem iOr_0 {x : Int} (h : C32 x) : iOr x 0 = x := by
  have e : Int32.ofInt x ||| Int32.ofInt 0 = Int32.ofInt x := by
    apply Int32.toBitVec_inj.mp
    rw [Int32.toBitVec_or]
    show _ ||| 0#32 = _
    rw [BitVec.or_zero]
  unfold iOr
  rw [e, i32_toInt h]
theorem iOr_C (x y : Int) : C32 (iOr x y) := i32_C _
theorem fitS_y {R : Rd} {y : Int} {p : List Int} {s : Int × List Int × Int} (h : fitsP R (ofL p)) : fitS R y p s = (s.1 + 1, (if s.1 = 0 then p else s.2.1), (if lastP R (ofL p) y (R 0 1).toNat < 0 then s.2.2 else iOr s.2.2 (iShl 1 (lastP R (ofL p) y (R 0 1).toNat)))) := by unfold fitS; rw [if_pos h]
theorem fitS_n {R : Rd} {y : Int} {p : List Int} {s : Int × List Int × Int} (h : ¬ fitsP R (ofL p)) : fitS R y p s = s := by unfold fitS; rw [if_neg h]
def Cfit (a j : Nat) : Prop := (a = 53 ∧ (j = 3 ∨ j = 4)) ∨ (a = 54 ∧ j = 1) ∨ a = 55 ∨ a = 56
theorem cfind26 {R : Rd} {y : Int} (hO : Ok R) : ∀ (g f : Nat) (k : Int) (μ : Mem) (p : List Int) (s : Int × List Int × Int), g < f → 0 ≤ k → k + g = 120 → endsP (R 0 1) g p = true → RC μ 1 R → OrdM μ 55 5 (ofL p) → μ 54 1 = R 0 1 → μ 53 3 = s.1 → μ 53 4 = s.2.2 → (s.1 ≠ 0 → OrdM μ 56 5 (ofL s.2.1)) → 0 ≤ s.1 → s.1 ≤ k → ∃ μ', fit_find_26 f y k μ = some μ' ∧ Off Cfit μ μ' ∧ μ' 53 3 = (fitF R (R 0 1) y g p s).1 ∧ μ' 53 4 = (fitF R (R 0 1) y g p s).2.2 ∧ ((fitF R (R 0 1) y g p s).1 ≠ 0 → OrdM μ' 56 5 (ofL (fitF R (R 0 1) y g p s).2.1)) := by
  have hb := hO.r.1
  intro g
  induction g with
  | zero => intro f k μ p s _ _ _ he; exact absurd he (by simp [endsP])
  | succ g ih =>
    intro f k μ p s hf h0 hk he hR hP h54 hm hw hfst hs0 hsk
    obtain ⟨f, rfl⟩ : ∃ z, f = z + 1 := ⟨f - 1, by omega⟩
    rw [endsP, Bool.and_eq_true, Bool.or_eq_true] at he
    have hin : inP R (ofL p) := fun i i1 i2 => inL_of (by omega) he.1 i ⟨i1, i2⟩
    have hfit := cfits hR hO hP h54 hin
    -- the state behind this order
    have mid : ∃ μ1, fit_find_26 (f + 1) y k μ = fit_find_92 (fit_find_26 f) y k μ1 ∧ Off Cfit μ μ1 ∧ (∀ j, μ1 55 j = μ 55 j) ∧ μ1 54 1 = μ 54 1 ∧ μ1 53 3 = (fitS R y p s).1 ∧ μ1 53 4 = (fitS R y p s).2.2 ∧ ((fitS R y p s).1 ≠ 0 → OrdM μ1 56 5 (ofL (fitS R y p s).2.1)) ∧ 0 ≤ (fitS R y p s).1 ∧ (fitS R y p s).1 ≤ k + 1 := by
      rw [fit_find_26.eq_2, if_neg (by omega)]
      by_cases z : fitsP R (ofL p)
      · rw [hfit.1 z, Option.bind_some, if_neg (by omega), fitS_y z]
        have hl := lastP_in (R := R) (a := ofL p) (y := y) (N := (R 0 1).toNat) (fun j j1 j2 => by have := hin j j1 (by omega); omega) (R 0 1).toNat (by omega)
        -- with the first order noted
        have nx : ∀ μ0 : Mem, Off Cfit μ μ0 → (∀ j, μ0 55 j = μ 55 j) → μ0 54 1 = μ 54 1 → μ0 53 3 = s.1 → μ0 53 4 = s.2.2 → OrdM μ0 56 5 (ofL (if s.1 = 0 then p else s.2.1)) → ∃ μ1, fit_find_60 (fit_find_92 (fit_find_26 f)) y k μ0 = fit_find_92 (fit_find_26 f) y k μ1 ∧ Off Cfit μ μ1 ∧ (∀ j, μ1 55 j = μ 55 j) ∧ μ1 54 1 = μ 54 1 ∧ μ1 53 3 = s.1 + 1 ∧ μ1 53 4 = (if lastP R (ofL p) y (R 0 1).toNat < 0 then s.2.2 else iOr s.2.2 (iShl 1 (lastP R (ofL p) y (R 0 1).toNat))) ∧ OrdM μ1 56 5 (ofL (if s.1 = 0 then p else s.2.1)) := fun μ0 q1 q2 q3 q4 q5 q6 => by
          have hR0 : RC (mset μ0 53 3 (s.1 + 1)) 1 R := hR.off (fun a h1 h2 => by rw [mset_off (by omega)]; exact q1.cell (fun j => by unfold Cfit; omega))
          have hl1 := clast (y := y) (a := ofL p) hR0 hO (fun i i1 i2 => by rw [mset_off (by omega), q2]; exact hP i i1 i2) (by rw [mset_off (by omega), q3, h54]) hin
          rw [fit_find_60.eq_1, bnd.eq_1, q4, wI_id (by omega), hl1, Option.bind_some]
          by_cases x : lastP R (ofL p) y (R 0 1).toNat < 0
          · rw [if_pos x, if_pos x]
            refine ⟨_, rfl, q1.set (by unfold Cfit; omega), fun j => by rw [mset_off (by omega), q2], by rw [mset_off (by omega), q3], by rw [mset_same], by rw [mset_ne (by omega), q5], fun i i1 i2 => by rw [mset_off (by omega)]; exact q6 i i1 i2⟩
          · rw [if_neg x, if_neg x, bnd.eq_1, mset_ne (by omega), q5]
            refine ⟨_, rfl, (q1.set (by unfold Cfit; omega)).set (by unfold Cfit; omega), fun j => by rw [mset_off (by omega), mset_off (by omega), q2], by rw [mset_off (by omega), mset_off (by omega), q3], by rw [mset_ne (by omega), mset_same], by rw [mset_same], fun i i1 i2 => by rw [mset_off (by omega), mset_off (by omega)]; exact q6 i i1 i2⟩
        by_cases x : μ 53 3 = 0
        · rw [if_pos x, ww_copy_eq (by omega) (by omega), Option.bind_some]
          obtain ⟨μ1, r1, r2, r3, r4, r5, r6, r7⟩ := nx (cpM μ 55 56 5) (fun a j n => by rw [cp_off (fun q => n (by unfold Cfit; omega))]) (fun j => by rw [cp_off (by omega)]) (by rw [cp_off (by omega)]) (by rw [cp_off (by omega)]; exact hm) (by rw [cp_off (by omega)]; exact hw) (fun i i1 i2 => by rw [cp_in (by omega), if_pos (by omega)]; exact hP i i1 i2)
          exact ⟨μ1, r1, r2, r3, r4, r5, r6, fun _ => r7, by show 0 ≤ s.1 + 1; omega, by show s.1 + 1 ≤ k + 1; omega⟩
        · rw [if_neg x]
          obtain ⟨μ1, r1, r2, r3, r4, r5, r6, r7⟩ := nx μ Off.rf (fun j => rfl) rfl hm hw (by rw [if_neg (by omega)]; exact hfst (by omega))
          exact ⟨μ1, r1, r2, r3, r4, r5, r6, fun _ => r7, by show 0 ≤ s.1 + 1; omega, by show s.1 + 1 ≤ k + 1; omega⟩
      · rw [hfit.2 z, Option.bind_some, if_pos rfl, fitS_n z]
        exact ⟨μ, rfl, Off.rf, fun j => rfl, rfl, hm, hw, hfst, hs0, by omega⟩
    obtain ⟨μ1, m1, m2, m3, m4, m5, m6, m7, m8, m9⟩ := mid
    have hP1 : OrdM μ1 (54 + 1) 5 (ofL p) := fun i i1 i2 => (m3 _).trans (hP i i1 i2)
    have hadv := cadv_eq (o := 54) (μ := μ1) (n := R 0 1) (p := p) ⟨by omega, by omega⟩ (by rw [m4, h54]) hP1
    rw [m1, fit_find_92.eq_1, fitF]
    by_cases z : lastI (R 0 1) (ofL p) < 0
    · rw [hadv.1 z, Option.bind_some, if_pos rfl, if_pos z]
      exact ⟨μ1, rfl, m2, m5, m6, m7⟩
    · obtain ⟨μ2, a1, a2, a3⟩ := hadv.2 z
      have hnx : endsP (R 0 1) g (stepL (R 0 1) p) = true := by
        rcases he.2 with q | q
        · exact absurd (of_decide_eq_true q) z
        · exact q
      rw [a1, Option.bind_some, if_neg (by show ¬ (1 : Int) = 0; omega), if_neg z, wI_id (by omega)]
      have hR2 : RC μ2 1 R := hR.off (fun a h1 h2 => funext fun j => by rw [a2 a j (by omega), m2 a j (by unfold Cfit; omega)])
      obtain ⟨μ3, b1, b2, b3, b4, b5⟩ := ih f (k + 1) μ2 (stepL (R 0 1) p) (fitS R y p s) (by omega) (by omega) (by omega) hnx hR2 a3 (by rw [a2 _ _ (by omega), m4, h54]) (by rw [a2 _ _ (by omega), m5]) (by rw [a2 _ _ (by omega), m6]) (fun q i i1 i2 => by rw [a2 _ _ (by omega)]; exact m7 q i i1 i2) m8 m9
      refine ⟨μ3, b1, (m2.tr (fun a j n => a2 a j (fun q => n (by unfold Cfit; omega)))).tr b2, b3, b4, b5⟩
theorem cfind_eq {μ : Mem} {R : Rd} {y : Int} (hR : RC μ 1 R) (hO : Ok R) : ∃ μ', fit_find y μ = some μ' ∧ Off Cfit μ μ' ∧ μ' 53 3 = (fitF R (R 0 1) y 120 idL (0, idL, 0)).1 ∧ μ' 53 4 = (fitF R (R 0 1) y 120 idL (0, idL, 0)).2.2 ∧ ((fitF R (R 0 1) y 120 idL (0, idL, 0)).1 ≠ 0 → OrdM μ' 56 5 (ofL (fitF R (R 0 1) y 120 idL (0, idL, 0)).2.1)) := by
  have hb := hO.r.1
  obtain ⟨μ1, a1, a2, a3, a4⟩ := ordbegin_eq (o := 54) (n := R 0 1) (by omega) (mset (mset μ 53 3 0) 53 4 0)
  have o1 : Off Cfit μ μ1 := fun a j n => by
    rw [a2 a j (fun q => n (by unfold Cfit; omega)) (fun q => n (by unfold Cfit; omega)), mset_ne (fun q => n (by unfold Cfit; omega)), mset_ne (fun q => n (by unfold Cfit; omega))]
  have hR1 : RC μ1 1 R := hR.off (fun a h1 h2 => o1.cell (fun j => by unfold Cfit; omega))
  obtain ⟨μ2, b1, b2, b3, b4, b5⟩ := cfind26 (y := y) hO 120 BIG 0 μ1 idL (0, idL, 0) (by have := BIG_gt; omega) (by omega) (by omega) (ends_id ⟨by omega, by omega⟩) hR1 (fun i i1 i2 => by rw [ofL_id i ⟨i1, i2⟩]; exact a4 i i1 i2) a3 (by rw [a2 _ _ (by omega) (by omega), mset_ne (by omega), mset_same]) (by rw [a2 _ _ (by omega) (by omega), mset_same]) (fun q => absurd rfl q) (by show (0 : Int) ≤ 0; omega) (by show (0 : Int) ≤ 0; omega)
  refine ⟨μ2, ?_, o1.tr b2, b3, b4, b5⟩
  rw [fit_find.eq_1, bnd.eq_1, bnd.eq_1]
  have e : mset (mset μ 53 3 0) 53 4 0 1 10 = R 0 1 := by rw [mset_off (by omega), mset_off (by omega)]; exact hR.1.2.1
  rw [e, a1, Option.bind_some, b1]
/-! ===== the reference's loops over orders ===== -/
theorem mords39 {K : Int → Int → Mem → Option (Int × Mem)} {n : Int} {a : Int → Int} (x m : Int) (hn : n ≤ 5) : ∀ (d f : Nat) (i : Int) (μ : Mem), d < f → 0 ≤ i → i + d = n → μ 62 0 = n → (∀ j : Int, 0 ≤ j → j < n → μ 80 j.toNat = a j) → (m = 0 → ∀ j : Int, 0 ≤ j → j < i → μ 81 j.toNat = a j) → ∃ μ', mod_orders_39 K f x m i μ = K x (m + 1) μ' ∧ (∀ b j, b ≠ 81 → μ' b j = μ b j) ∧ (m = 0 → ∀ j : Int, 0 ≤ j → j < n → μ' 81 j.toNat = a j) ∧ (m ≠ 0 → μ' = μ) := by
  sorry
