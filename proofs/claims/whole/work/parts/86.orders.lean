/-! ===== orders, whose ===== -/
theorem iOr_0 {x : Int} (h : C32 x) : iOr x 0 = x := by
  have e : Int32.ofInt x ||| Int32.ofInt 0 = Int32.ofInt x := by
    apply Int32.toBitVec_inj.mp
    rw [Int32.toBitVec_or]
    show _ ||| 0#32 = _
    rw [BitVec.or_zero]
  unfold iOr
  rw [e, i32_toInt h]
theorem iOr_C (x y : Int) : C32 (iOr x y) := i32_C _
theorem fitS_y {R : Rd} {y : Int} {p : List Int} {s : Int × List Int × Int} (h : fitsP R (ofL p)) : fitS R y p s = (s.1 + 1, (if s.1 = 0 then p else s.2.1), (if lastP R (ofL p) y (R 0 1).toNat < 0 then s.2.2 else iOr s.2.2 (iShl 1 (lastP R (ofL p) y (R 0 1).toNat)))) := by unfold fitS; rw [if_pos h]
theorem fitS_n {R : Rd} {y : Int} {p : List Int} {s : Int × List Int × Int} (h : ¬ fitsP R (ofL p)) : fitS R y p s = s := by unfold fitS; rw [if_neg h]
def Cfit (a j : Nat) : Prop := (a = 53 ∧ (j = 3 ∨ j = 4)) ∨ (a = 54 ∧ j = 1) ∨ a = 55 ∨ a = 56
theorem cfind26 {R : Rd} {y : Int} (hO : Ok R) : ∀ (g f : Nat) (k : Int) (μ : Mem) (p : List Int) (s : Int × List Int × Int), g < f → 0 ≤ k → k + g = 120 → endsP (R 0 1) g p = true → RC μ 1 R → OrdM μ 55 5 (ofL p) → μ 54 1 = R 0 1 → μ 53 3 = s.1 → μ 53 4 = s.2.2 → (s.1 ≠ 0 → OrdM μ 56 5 (ofL s.2.1)) → 0 ≤ s.1 → s.1 ≤ k → ∃ μ', fit_find_26 f y k μ = some μ' ∧ Off Cfit μ μ' ∧ μ' 53 3 = (fitF R (R 0 1) y g p s).1 ∧ μ' 53 4 = (fitF R (R 0 1) y g p s).2.2 ∧ ((fitF R (R 0 1) y g p s).1 ≠ 0 → OrdM μ' 56 5 (ofL (fitF R (R 0 1) y g p s).2.1)) := by
  have hb := hO.r.1
  intro g
  induction g with
  | zero => intro f k μ p s _ _ _ he; exact absurd he (by simp [endsP])
  | succ g ih =>
    intro f k μ p s hf h0 hk he hR hP h54 hm hw hfst hs0 hsk
    obtain ⟨f, rfl⟩ : ∃ z, f = z + 1 := ⟨f - 1, by omega⟩
    rw [endsP, Bool.and_eq_true, Bool.or_eq_true] at he
    have hin : inP R (ofL p) := fun i i1 i2 => inL_of (by omega) he.1 i ⟨i1, i2⟩
    have hfit := cfits hR hO hP h54 hin
    -- the state behind this order
    have mid : ∃ μ1, fit_find_26 (f + 1) y k μ = fit_find_92 (fit_find_26 f) y k μ1 ∧ Off Cfit μ μ1 ∧ (∀ j, μ1 55 j = μ 55 j) ∧ μ1 54 1 = μ 54 1 ∧ μ1 53 3 = (fitS R y p s).1 ∧ μ1 53 4 = (fitS R y p s).2.2 ∧ ((fitS R y p s).1 ≠ 0 → OrdM μ1 56 5 (ofL (fitS R y p s).2.1)) ∧ 0 ≤ (fitS R y p s).1 ∧ (fitS R y p s).1 ≤ k + 1 := by
      rw [fit_find_26.eq_2, if_neg (by omega)]
      by_cases z : fitsP R (ofL p)
      · rw [hfit.1 z, Option.bind_some, if_neg (by omega), fitS_y z]
        have hl := lastP_in (R := R) (a := ofL p) (y := y) (N := (R 0 1).toNat) (fun j j1 j2 => by have := hin j j1 (by omega); omega) (R 0 1).toNat (by omega)
        -- with the first order noted
        have nx : ∀ μ0 : Mem, Off Cfit μ μ0 → (∀ j, μ0 55 j = μ 55 j) → μ0 54 1 = μ 54 1 → μ0 53 3 = s.1 → μ0 53 4 = s.2.2 → OrdM μ0 56 5 (ofL (if s.1 = 0 then p else s.2.1)) → ∃ μ1, fit_find_60 (fit_find_92 (fit_find_26 f)) y k μ0 = fit_find_92 (fit_find_26 f) y k μ1 ∧ Off Cfit μ μ1 ∧ (∀ j, μ1 55 j = μ 55 j) ∧ μ1 54 1 = μ 54 1 ∧ μ1 53 3 = s.1 + 1 ∧ μ1 53 4 = (if lastP R (ofL p) y (R 0 1).toNat < 0 then s.2.2 else iOr s.2.2 (iShl 1 (lastP R (ofL p) y (R 0 1).toNat))) ∧ OrdM μ1 56 5 (ofL (if s.1 = 0 then p else s.2.1)) := fun μ0 q1 q2 q3 q4 q5 q6 => by
          have hR0 : RC (mset μ0 53 3 (s.1 + 1)) 1 R := hR.off (fun a h1 h2 => by rw [mset_off (by omega)]; exact q1.cell (fun j => by unfold Cfit; omega))
          have hl1 := clast (y := y) (a := ofL p) hR0 hO (fun i i1 i2 => by rw [mset_off (by omega), q2]; exact hP i i1 i2) (by rw [mset_off (by omega), q3, h54]) hin
          rw [fit_find_60.eq_1, bnd.eq_1, q4, wI_id (by omega), hl1, Option.bind_some]
          by_cases x : lastP R (ofL p) y (R 0 1).toNat < 0
          · rw [if_pos x, if_pos x]
            refine ⟨_, rfl, q1.set (by unfold Cfit; omega), fun j => by rw [mset_off (by omega), q2], by rw [mset_off (by omega), q3], by rw [mset_same], by rw [mset_ne (by omega), q5], fun i i1 i2 => by rw [mset_off (by omega)]; exact q6 i i1 i2⟩
          · rw [if_neg x, if_neg x, bnd.eq_1, mset_ne (by omega), q5]
            refine ⟨_, rfl, (q1.set (by unfold Cfit; omega)).set (by unfold Cfit; omega), fun j => by rw [mset_off (by omega), mset_off (by omega), q2], by rw [mset_off (by omega), mset_off (by omega), q3], by rw [mset_ne (by omega), mset_same], by rw [mset_same], fun i i1 i2 => by rw [mset_off (by omega), mset_off (by omega)]; exact q6 i i1 i2⟩
        by_cases x : μ 53 3 = 0
        · rw [if_pos x, ww_copy_eq (by omega) (by omega), Option.bind_some]
          obtain ⟨μ1, r1, r2, r3, r4, r5, r6, r7⟩ := nx (cpM μ 55 56 5) (fun a j n => by rw [cp_off (fun q => n (by unfold Cfit; omega))]) (fun j => by rw [cp_off (by omega)]) (by rw [cp_off (by omega)]) (by rw [cp_off (by omega)]; exact hm) (by rw [cp_off (by omega)]; exact hw) (fun i i1 i2 => by rw [cp_in (by omega), if_pos (by omega)]; exact hP i i1 i2)
          exact ⟨μ1, r1, r2, r3, r4, r5, r6, fun _ => r7, by show 0 ≤ s.1 + 1; omega, by show s.1 + 1 ≤ k + 1; omega⟩
        · rw [if_neg x]
          obtain ⟨μ1, r1, r2, r3, r4, r5, r6, r7⟩ := nx μ Off.rf (fun j => rfl) rfl hm hw (by rw [if_neg (by omega)]; exact hfst (by omega))
          exact ⟨μ1, r1, r2, r3, r4, r5, r6, fun _ => r7, by show 0 ≤ s.1 + 1; omega, by show s.1 + 1 ≤ k + 1; omega⟩
      · rw [hfit.2 z, Option.bind_some, if_pos rfl, fitS_n z]
        exact ⟨μ, rfl, Off.rf, fun j => rfl, rfl, hm, hw, hfst, hs0, by omega⟩
    obtain ⟨μ1, m1, m2, m3, m4, m5, m6, m7, m8, m9⟩ := mid
    have hP1 : OrdM μ1 (54 + 1) 5 (ofL p) := fun i i1 i2 => (m3 _).trans (hP i i1 i2)
    have hadv := cadv_eq (o := 54) (μ := μ1) (n := R 0 1) (p := p) ⟨by omega, by omega⟩ (by rw [m4, h54]) hP1
    rw [m1, fit_find_92.eq_1, fitF]
    by_cases z : lastI (R 0 1) (ofL p) < 0
    · rw [hadv.1 z, Option.bind_some, if_pos rfl, if_pos z]
      exact ⟨μ1, rfl, m2, m5, m6, m7⟩
    · obtain ⟨μ2, a1, a2, a3⟩ := hadv.2 z
      have hnx : endsP (R 0 1) g (stepL (R 0 1) p) = true := by
        rcases he.2 with q | q
        · exact absurd (of_decide_eq_true q) z
        · exact q
      rw [a1, Option.bind_some, if_neg (by show ¬ (1 : Int) = 0; omega), if_neg z, wI_id (by omega)]
      have hR2 : RC μ2 1 R := hR.off (fun a h1 h2 => funext fun j => by rw [a2 a j (by omega), m2 a j (by unfold Cfit; omega)])
      obtain ⟨μ3, b1, b2, b3, b4, b5⟩ := ih f (k + 1) μ2 (stepL (R 0 1) p) (fitS R y p s) (by omega) (by omega) (by omega) hnx hR2 a3 (by rw [a2 _ _ (by omega), m4, h54]) (by rw [a2 _ _ (by omega), m5]) (by rw [a2 _ _ (by omega), m6]) (fun q i i1 i2 => by rw [a2 _ _ (by omega)]; exact m7 q i i1 i2) m8 m9
      refine ⟨μ3, b1, (m2.tr (fun a j n => a2 a j (fun q => n (by unfold Cfit; omega)))).tr b2, b3, b4, b5⟩
theorem cfind_eq {μ : Mem} {R : Rd} {y : Int} (hR : RC μ 1 R) (hO : Ok R) : ∃ μ', fit_find y μ = some μ' ∧ Off Cfit μ μ' ∧ μ' 53 3 = (fitF R (R 0 1) y 120 idL (0, idL, 0)).1 ∧ μ' 53 4 = (fitF R (R 0 1) y 120 idL (0, idL, 0)).2.2 ∧ ((fitF R (R 0 1) y 120 idL (0, idL, 0)).1 ≠ 0 → OrdM μ' 56 5 (ofL (fitF R (R 0 1) y 120 idL (0, idL, 0)).2.1)) := by
  have hb := hO.r.1
  obtain ⟨μ1, a1, a2, a3, a4⟩ := ordbegin_eq (o := 54) (n := R 0 1) (by omega) (mset (mset μ 53 3 0) 53 4 0)
  have o1 : Off Cfit μ μ1 := fun a j n => by
    rw [a2 a j (fun q => n (by unfold Cfit; omega)) (fun q => n (by unfold Cfit; omega)), mset_ne (fun q => n (by unfold Cfit; omega)), mset_ne (fun q => n (by unfold Cfit; omega))]
  have hR1 : RC μ1 1 R := hR.off (fun a h1 h2 => o1.cell (fun j => by unfold Cfit; omega))
  obtain ⟨μ2, b1, b2, b3, b4, b5⟩ := cfind26 (y := y) hO 120 BIG 0 μ1 idL (0, idL, 0) (by have := BIG_gt; omega) (by omega) (by omega) (ends_id ⟨by omega, by omega⟩) hR1 (fun i i1 i2 => by rw [ofL_id i ⟨i1, i2⟩]; exact a4 i i1 i2) a3 (by rw [a2 _ _ (by omega) (by omega), mset_ne (by omega), mset_same]) (by rw [a2 _ _ (by omega) (by omega), mset_same]) (fun q => absurd rfl q) (by show (0 : Int) ≤ 0; omega) (by show (0 : Int) ≤ 0; omega)
  refine ⟨μ2, ?_, o1.tr b2, b3, b4, b5⟩
  rw [fit_find.eq_1, bnd.eq_1, bnd.eq_1]
  have e : mset (mset μ 53 3 0) 53 4 0 1 10 = R 0 1 := by rw [mset_off (by omega), mset_off (by omega)]; exact hR.1.2.1
  rw [e, a1, Option.bind_some, b1]
/-! ===== the reference's loops over orders ===== -/
theorem mords39_n {K : Int → Int → Mem → Option (Int × Mem)} {x m i : Int} {f : Nat} {μ : Mem} (hm : m ≠ 0) (h1 : 0 ≤ m ∧ m ≤ 1000) : mod_orders_39 K (f + 1) x m i μ = K x (m + 1) μ := by
  rw [mod_orders_39.eq_2]
  unfold mod_orders_74
  rw [wI_id (by omega), if_neg hm]
  split <;> rfl
theorem mords39 {K : Int → Int → Mem → Option (Int × Mem)} {n : Int} {a : Int → Int} (x : Int) (hn : n ≤ 5) : ∀ (d f : Nat) (i : Int) (μ : Mem), d < f → 0 ≤ i → i + d = n → μ 62 0 = n → (∀ j : Int, 0 ≤ j → j < n → μ 80 j.toNat = a j) → (∀ j : Int, 0 ≤ j → j < i → μ 81 j.toNat = a j) → ∃ μ', mod_orders_39 K f x 0 i μ = K x 1 μ' ∧ (∀ b j, b ≠ 81 → μ' b j = μ b j) ∧ (∀ j : Int, 0 ≤ j → j < n → μ' 81 j.toNat = a j) := by
  intro d
  induction d with
  | zero =>
    intro f i μ hf h0 he h62 h80 h81
    obtain ⟨f, rfl⟩ : ∃ z, f = z + 1 := ⟨f - 1, by omega⟩
    rw [mod_orders_39.eq_2, if_pos (by omega), mod_orders_74.eq_1, wI_id (by omega)]
    exact ⟨μ, rfl, fun _ _ _ => rfl, fun j j1 j2 => h81 j j1 (by omega)⟩
  | succ d ih =>
    intro f i μ hf h0 he h62 h80 h81
    obtain ⟨f, rfl⟩ : ∃ z, f = z + 1 := ⟨f - 1, by omega⟩
    obtain ⟨μ', g1, g2, g3⟩ := ih f (i + 1) (mset μ 81 i.toNat (a i)) (by omega) (by omega) (by omega) (by rw [mset_off (by omega)]; exact h62) (fun j j1 j2 => by rw [mset_off (by omega)]; exact h80 j j1 j2) (fun j j1 j2 => by
      rw [mset_ap]
      by_cases z : j = i
      · rw [if_pos ⟨rfl, by rw [z]⟩, z]
      · rw [if_neg (by omega)]; exact h81 j j1 (by omega))
    refine ⟨μ', ?_, fun b j hb => by rw [g2 b j hb, mset_off hb], g3⟩
    rw [mod_orders_39.eq_2, if_neg (by omega), if_pos rfl, ld_ok (by omega), Option.bind_some, stx_ok (by omega), Option.bind_some, h80 i h0 (by omega), wI_id (by omega), g1]
def Mfit (a _j : Nat) : Prop := a = 80 ∨ a = 81
theorem MC.fit {μ μ' : Mem} {R : Rd} (h : Off Mfit μ μ') (H : MC μ 0 R) : MC μ' 0 R := H.off (h _ _ (by unfold Mfit; omega)) (fun a h1 h2 h3 => h.cell (fun j => by unfold Mfit; omega))
theorem mords25 {R : Rd} {x y : Int} (hO : Ok R) (hx : x = 0 ∨ 10 ≤ x ∧ x - 10 < R 0 1) : ∀ (g f : Nat) (μ : Mem) (p : List Int) (s : Int × List Int × Int), g + 1 < f → endsP (R 0 1) g p = true → MC μ 0 R → OrdM μ 80 5 (ofL p) → (s.1 ≠ 0 → ∀ j : Int, 0 ≤ j → j < R 0 1 → μ 81 j.toNat = ofL s.2.1 j) → 0 ≤ s.1 → s.1 + g ≤ 120 → ∃ μ', mod_orders_25 f x s.1 1 μ = some (if x = 0 then (fitF R (R 0 1) y g p s).1 else if (fitF R (R 0 1) y g p s).1 = 0 then -4 else ofL (fitF R (R 0 1) y g p s).2.1 (x - 10), μ') ∧ Off Mfit μ μ' := by
  have hb := hO.r.1
  intro g
  induction g with
  | zero => intro f μ p s _ he; exact absurd he (by simp [endsP])
  | succ g ih =>
    intro f μ p s hf he hM hP hfst hs0 hsg
    obtain ⟨f, rfl⟩ : ∃ z, f = z + 1 := ⟨f - 1, by omega⟩
    rw [endsP, Bool.and_eq_true, Bool.or_eq_true] at he
    have hin : inP R (ofL p) := fun i i1 i2 => inL_of (by omega) he.1 i ⟨i1, i2⟩
    have hfit := mfits hM hO hP hin
    have hB := BIG_gt
    have mid : ∃ μ1, mod_orders_25 (f + 1) x s.1 1 μ = mod_orders_77 (mod_orders_25 f) x (fitS R y p s).1 μ1 ∧ (∀ b j, b ≠ 81 → μ1 b j = μ b j) ∧ ((fitS R y p s).1 ≠ 0 → ∀ j : Int, 0 ≤ j → j < R 0 1 → μ1 81 j.toNat = ofL (fitS R y p s).2.1 j) ∧ 0 ≤ (fitS R y p s).1 ∧ (fitS R y p s).1 + g ≤ 120 := by
      rw [mod_orders_25.eq_2, if_neg (by omega)]
      by_cases z : fitsP R (ofL p)
      · rw [hfit.1 z, Option.bind_some, if_neg (by omega), fitS_y z]
        by_cases w : s.1 = 0
        · obtain ⟨μ1, g1, g2, g3⟩ := mords39 (K := mod_orders_77 (mod_orders_25 f)) (n := R 0 1) (a := ofL p) x (by omega) (R 0 1).toNat BIG 0 μ (by omega) (by omega) (by omega) hM.1.2.1 (fun j j1 j2 => hP j j1 (by omega)) (fun j j1 j2 => by omega)
          refine ⟨μ1, ?_, g2, fun _ j j1 j2 => ?_, by show 0 ≤ s.1 + 1; omega, by show s.1 + 1 + g ≤ 120; omega⟩
          · rw [w, g1]; rfl
          · rw [g3 j j1 j2]
            show _ = ofL (if s.1 = 0 then p else s.2.1) j
            rw [if_pos w]
        · obtain ⟨F, hF⟩ := BIG8
          refine ⟨μ, ?_, fun b j _ => rfl, fun _ j j1 j2 => ?_, by show 0 ≤ s.1 + 1; omega, by show s.1 + 1 + g ≤ 120; omega⟩
          · rw [hF, mords39_n w (by omega)]
          · show _ = ofL (if s.1 = 0 then p else s.2.1) j
            rw [if_neg w]
            exact hfst w j j1 j2
      · rw [hfit.2 z, Option.bind_some, if_pos rfl, fitS_n z]
        exact ⟨μ, rfl, fun _ _ _ => rfl, hfst, hs0, by omega⟩
    obtain ⟨μ1, m1, m2, m3, m4, m5⟩ := mid
    have o1 : Off Mfit μ μ1 := fun a j n => m2 a j (fun q => n (by unfold Mfit; omega))
    have hM1 := hM.fit o1
    have hadv := madv_eq (μ := μ1) (n := R 0 1) (p := p) ⟨by omega, by omega⟩ hM1.1.2.1 (fun i i1 i2 => by rw [m2 _ _ (by omega)]; exact hP i i1 i2)
    rw [m1, mod_orders_77.eq_1, fitF]
    by_cases z : lastI (R 0 1) (ofL p) < 0
    · rw [hadv.1 z, Option.bind_some, if_pos z]
      refine ⟨μ1, ?_, o1⟩
      obtain ⟨f, rfl⟩ : ∃ z, f = z + 1 := ⟨f - 1, by omega⟩
      rw [mod_orders_25.eq_2, if_pos rfl]
      rcases hx with hx | hx
      · rw [if_pos hx, if_pos hx]
      · rw [if_neg (show ¬ x = 0 by omega), if_neg (show ¬ x = 0 by omega)]
        dsimp only
        by_cases w : (fitS R y p s).1 = 0
        · rw [if_pos w, if_pos w]
        · rw [if_neg w, if_neg w, wI_id (by omega), ld_ok (by omega), Option.bind_some, m3 w (x - 10) (by omega) (by omega)]
    · obtain ⟨μ2, a1, a2, a3⟩ := hadv.2 z
      have hnx : endsP (R 0 1) g (stepL (R 0 1) p) = true := by
        rcases he.2 with q | q
        · exact absurd (of_decide_eq_true q) z
        · exact q
      have o2 : Off Mfit μ1 μ2 := fun a j n => a2 a j (fun q => n (by unfold Mfit; omega))
      rw [a1, Option.bind_some, if_neg z]
      obtain ⟨μ3, b1, b2⟩ := ih f μ2 (stepL (R 0 1) p) (fitS R y p s) (by omega) hnx (hM1.fit o2) a3 (fun q j j1 j2 => by rw [a2 _ _ (by omega)]; exact m3 q j j1 j2) m4 m5
      exact ⟨μ3, b1, (o1.tr o2).tr b2⟩
theorem mwhose18 {R : Rd} {y : Int} (hO : Ok R) : ∀ (g f : Nat) (μ : Mem) (p : List Int) (s : Int × List Int × Int), g + 1 < f → endsP (R 0 1) g p = true → MC μ 0 R → OrdM μ 80 5 (ofL p) → C32 s.2.2 → ∃ μ', mod_whose_18 f y s.2.2 1 μ = some ((fitF R (R 0 1) y g p s).2.2, μ') ∧ Off Mfit μ μ' := by
  have hb := hO.r.1
  intro g
  induction g with
  | zero => intro f μ p s _ he; exact absurd he (by simp [endsP])
  | succ g ih =>
    intro f μ p s hf he hM hP hC
    obtain ⟨f, rfl⟩ : ∃ z, f = z + 1 := ⟨f - 1, by omega⟩
    rw [endsP, Bool.and_eq_true, Bool.or_eq_true] at he
    have hin : inP R (ofL p) := fun i i1 i2 => inL_of (by omega) he.1 i ⟨i1, i2⟩
    have hfit := mfits hM hO hP hin
    have mid : mod_whose_18 (f + 1) y s.2.2 1 μ = ((mod_nextOrder μ).bind fun u2 => mod_whose_18 f y (fitS R y p s).2.2 u2.1 u2.2) ∧ C32 (fitS R y p s).2.2 := by
      rw [mod_whose_18.eq_2, if_neg (by omega)]
      by_cases z : fitsP R (ofL p)
      · have hl := lastP_in (R := R) (a := ofL p) (y := y) (N := (R 0 1).toNat) (fun j j1 j2 => by have := hin j j1 (by omega); omega) (R 0 1).toNat (by omega)
        rw [hfit.1 z, Option.bind_some, if_neg (by omega), fitS_y z, mlast (y := y) hM hO hP hin, Option.bind_some, mod_whose_39.eq_1]
        dsimp only
        by_cases x : lastP R (ofL p) y (R 0 1).toNat = -4
        · rw [if_pos x, mod_whose_57.eq_1, bnd.eq_1, iOr_0 hC, if_pos (show lastP R (ofL p) y (R 0 1).toNat < 0 by omega)]
          exact ⟨rfl, hC⟩
        · rw [if_neg x, mod_whose_57.eq_1, bnd.eq_1, if_neg (show ¬ lastP R (ofL p) y (R 0 1).toNat < 0 by omega)]
          exact ⟨rfl, iOr_C _ _⟩
      · rw [hfit.2 z, Option.bind_some, if_pos rfl, fitS_n z, mod_whose_39.eq_1, if_pos rfl, mod_whose_57.eq_1, bnd.eq_1, iOr_0 hC]
        exact ⟨rfl, hC⟩
    have hadv := madv_eq (μ := μ) (n := R 0 1) (p := p) ⟨by omega, by omega⟩ hM.1.2.1 hP
    rw [mid.1, fitF]
    by_cases z : lastI (R 0 1) (ofL p) < 0
    · rw [hadv.1 z, Option.bind_some, if_pos z]
      obtain ⟨f, rfl⟩ : ∃ z, f = z + 1 := ⟨f - 1, by omega⟩
      exact ⟨μ, by rw [mod_whose_18.eq_2, if_pos rfl], Off.rf⟩
    · obtain ⟨μ2, a1, a2, a3⟩ := hadv.2 z
      have hnx : endsP (R 0 1) g (stepL (R 0 1) p) = true := by
        rcases he.2 with q | q
        · exact absurd (of_decide_eq_true q) z
        · exact q
      have o2 : Off Mfit μ μ2 := fun a j n => a2 a j (fun q => n (by unfold Mfit; omega))
      rw [a1, Option.bind_some, if_neg z]
      obtain ⟨μ3, b1, b2⟩ := ih f μ2 (stepL (R 0 1) p) (fitS R y p s) (by omega) hnx (hM.fit o2) a3 mid.2
      exact ⟨μ3, b1, o2.tr b2⟩
theorem less_eq (μ : Mem) {x : Int} (hx : C32 x) : ww_less μ x 10 = some (if 10 ≤ x then x - 10 else -1) := by
  unfold ww_less
  by_cases z : 10 ≤ x
  · rw [if_pos z, if_pos z, wI_id (by omega)]
  · rw [if_neg z, if_neg z]
/-- which carts' numbers are asked with 10 and more -/
theorem askC {μ : Mem} (H : Inv μ) {x : Int} (hx : C32 x) : (ww_less μ x 10).bind (fun u1 => roa_hasCart 1 μ u1) = some (if 10 ≤ x ∧ x - 10 < μ 62 0 then 1 else 0) := by
  obtain ⟨c1, c2, c3, c4, c5, c6⟩ := H.c
  rw [less_eq μ hx, Option.bind_some, hasCart_eq, c2]
  congr 1
  by_cases z : 10 ≤ x
  · rw [if_pos z]
    by_cases y : x - 10 < μ 62 0
    · rw [if_pos ⟨by omega, y⟩, if_pos ⟨z, y⟩]
    · rw [if_neg (by omega), if_neg (by omega)]
  · rw [if_neg z, if_neg (by omega), if_neg (by omega)]
theorem askM {μ : Mem} (h5 : 0 ≤ μ 62 0 ∧ μ 62 0 ≤ 5) {x : Int} (hx : C32 x) : mod_isCart μ (wI (x - 10)) = some (if 10 ≤ x ∧ x - 10 < μ 62 0 then 1 else 0) := by
  rw [mIsCart_eq h5]
  congr 1
  by_cases z : -2147483648 ≤ x - 10
  · rw [wI_id (by omega)]
    by_cases y : 10 ≤ x ∧ x - 10 < μ 62 0
    · rw [if_pos (by omega), if_pos y]
    · rw [if_neg (by omega), if_neg y]
  · rw [show x - 10 = (x - 10 + 4294967296) - 4294967296 by omega, wI_wrap (by omega), if_neg (by omega), if_neg (by omega)]
theorem E_orders_ok : E_orders Inv := by
  intro μ H x hx
  obtain ⟨c1, c2, c3, c4, c5, c6⟩ := H.c
  obtain ⟨hR, hM, hO, hT⟩ := H.R
  have aC := askC H hx
  by_cases k : x = 0 ∨ 10 ≤ x ∧ x - 10 < μ 62 0
  · obtain ⟨μ1, a1, a2, a3, a4, a5⟩ := cfind_eq (y := 0) hR hO
    have hM1 : MC μ1 0 (mR μ 0) := hM.off (a2 _ _ (by unfold Cfit; omega)) (fun a h1 h2 h3 => a2.cell (fun j => by unfold Cfit; omega))
    obtain ⟨μ2, b1, b2, b3⟩ := byN_eq μ1
    have o2 : Off Mfit μ1 μ2 := fun a j n => b2 a j (fun q => n (by unfold Mfit; omega))
    obtain ⟨μ3, d1, d2⟩ := mords25 (y := 0) hO k 120 BIG μ2 idL (0, idL, 0) (by have := BIG_gt; omega) (ends_id ⟨c5.1, c5.2⟩) (hM1.fit o2) (fun i i1 i2 => by rw [ofL_id i ⟨i1, i2⟩]; exact b3 i i1 i2) (fun q => absurd rfl q) (by show (0 : Int) ≤ 0; omega) (by show (0 : Int) + 120 ≤ 120; omega)
    have hn : mR μ 0 0 1 = μ 62 0 := rfl
    have e22 : ww_orders_22 x μ = some (if x = 0 then (fitF (mR μ 0) (mR μ 0 0 1) 0 120 idL (0, idL, 0)).1 else if (fitF (mR μ 0) (mR μ 0 0 1) 0 120 idL (0, idL, 0)).1 = 0 then -4 else ofL (fitF (mR μ 0) (mR μ 0 0 1) 0 120 idL (0, idL, 0)).2.1 (x - 10), μ1) := by
      rw [ww_orders_22.eq_1, a1, Option.bind_some, a3]
      rcases k with k | k
      · rw [if_pos k, if_pos k]
      · rw [if_neg (show ¬ x = 0 by omega), if_neg (show ¬ x = 0 by omega)]
        by_cases w : (fitF (mR μ 0) (mR μ 0 0 1) 0 120 idL (0, idL, 0)).1 = 0
        · rw [if_pos w, if_pos w]
        · rw [if_neg w, if_neg w, wI_id (by omega), at_in (by omega), Option.bind_some, a5 w (x - 10) (by omega) (by omega)]
    refine ⟨(if x = 0 then (fitF (mR μ 0) (mR μ 0 0 1) 0 120 idL (0, idL, 0)).1 else if (fitF (mR μ 0) (mR μ 0 0 1) 0 120 idL (0, idL, 0)).1 = 0 then -4 else ofL (fitF (mR μ 0) (mR μ 0 0 1) 0 120 idL (0, idL, 0)).2.1 (x - 10)), μ1, μ3, ?_, ?_, ?_⟩
    rotate_left
    · rw [mod_orders.eq_1]
      by_cases w : x = 0
      · rw [if_pos w, mod_orders_17.eq_1, b1, Option.bind_some]
        exact d1
      · have e62 : μ1 62 0 = μ 62 0 := a2 _ _ (by unfold Cfit; omega)
        rw [if_neg w, askM (by rw [e62]; exact c5) hx, e62, tT (k.resolve_left w), mod_orders_17.eq_1, b1, Option.bind_some]
        exact d1
    · exact H.scr (((a2.mono (fun a j z => by unfold Cfit at z; unfold Scr; omega)).tr (o2.mono (fun a j z => by unfold Mfit at z; unfold Scr; omega))).tr (d2.mono (fun a j z => by unfold Mfit at z; unfold Scr; omega)))
    · rw [ww_orders.eq_1]
      by_cases w : x = 0
      · rw [if_pos w]; exact e22
      · rw [if_neg w]
        have h2 : (ww_less μ x 10).bind (fun u1 => (roa_hasCart 1 μ u1).bind fun u2 => if u2 = 0 then some (-1, μ) else ww_orders_22 x μ) = ((ww_less μ x 10).bind (fun u1 => roa_hasCart 1 μ u1)).bind fun u2 => if u2 = 0 then some (-1, μ) else ww_orders_22 x μ := by
          cases ww_less μ x 10 <;> rfl
        rw [h2, aC, tT (k.resolve_left w)]
        exact e22
  · refine ⟨-1, μ, μ, ?_, ?_, H⟩
    · rw [ww_orders.eq_1, if_neg (fun q => k (Or.inl q))]
      have h2 : (ww_less μ x 10).bind (fun u1 => (roa_hasCart 1 μ u1).bind fun u2 => if u2 = 0 then some (-1, μ) else ww_orders_22 x μ) = ((ww_less μ x 10).bind (fun u1 => roa_hasCart 1 μ u1)).bind fun u2 => if u2 = 0 then some (-1, μ) else ww_orders_22 x μ := by
        cases ww_less μ x 10 <;> rfl
      rw [h2, aC, tF (fun q => k (Or.inr q))]
    · rw [mod_orders.eq_1, if_neg (fun q => k (Or.inl q)), askM c5 hx, tF (fun q => k (Or.inr q))]
theorem E_whose_ok : E_whose Inv := by
  intro μ H y hy
  obtain ⟨c1, c2, c3, c4, c5, c6⟩ := H.c
  obtain ⟨hR, hM, hO, hT⟩ := H.R
  by_cases k : 0 ≤ y ∧ y ≤ μ 61 2
  · obtain ⟨μ1, a1, a2, a3, a4, a5⟩ := cfind_eq (y := y) hR hO
    have hM1 : MC μ1 0 (mR μ 0) := hM.off (a2 _ _ (by unfold Cfit; omega)) (fun a h1 h2 h3 => a2.cell (fun j => by unfold Cfit; omega))
    obtain ⟨μ2, b1, b2, b3⟩ := byN_eq μ1
    have o2 : Off Mfit μ1 μ2 := fun a j n => b2 a j (fun q => n (by unfold Mfit; omega))
    obtain ⟨μ3, d1, d2⟩ := mwhose18 (y := y) hO 120 BIG μ2 idL (0, idL, 0) (by have := BIG_gt; omega) (ends_id ⟨c5.1, c5.2⟩) (hM1.fit o2) (fun i i1 i2 => by rw [ofL_id i ⟨i1, i2⟩]; exact b3 i i1 i2) ⟨by show (-2147483648 : Int) ≤ 0; omega, by show (0 : Int) < 2147483648; omega⟩
    refine ⟨(fitF (mR μ 0) (mR μ 0 0 1) y 120 idL (0, idL, 0)).2.2, μ1, μ3, ?_, ?_, ?_⟩
    · rw [ww_whose.eq_1, hasYard_eq, c1, tT k, a1, Option.bind_some, a4]
    · have e61 : μ1 61 2 = μ 61 2 := a2 _ _ (by unfold Cfit; omega)
      rw [mod_whose.eq_1, mIsYard_eq, e61, tT k, b1, Option.bind_some]
      exact d1
    · exact H.scr (((a2.mono (fun a j z => by unfold Cfit at z; unfold Scr; omega)).tr (o2.mono (fun a j z => by unfold Mfit at z; unfold Scr; omega))).tr (d2.mono (fun a j z => by unfold Mfit at z; unfold Scr; omega)))
  · refine ⟨-1, μ, μ, ?_, ?_, H⟩
    · rw [ww_whose.eq_1, hasYard_eq, c1, tF k]
    · rw [mod_whose.eq_1, mIsYard_eq, tF k]
