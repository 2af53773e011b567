theorem faultOfPairs_eq {μ : Mem} {k lane n : Int} {w : Nat} (hk : 0 ≤ k ∧ k < 4) (hs : (μ 60 k.toNat = -4 ∧ μ 85 k.toNat = -4) ∨ ((0 ≤ μ 60 k.toNat ∧ μ 60 k.toNat ≤ 40) ∧ μ 59 k.toNat = μ 85 k.toNat ∧ 0 ≤ μ 85 k.toNat)) : she_faultOfPairs μ k lane (w : Int) n = some (if μ 85 k.toNat = -4 then 1 else if μ 85 k.toNat = lane then (if n ≤ (w : Int) then 0 else 2) else 3) := by
  unfold she_faultOfPairs
  rw [cellsOf_eq hk, Option.bind_some]
  rcases hs with ⟨h1, h2⟩ | ⟨h1, h2, h3⟩
  · rw [if_neg (by omega), if_pos h2]
  · rw [if_pos h1.1, at_in (by omega), Option.bind_some, h2, if_neg (show ¬ μ 85 k.toNat = -4 by omega)]
    by_cases z : μ 85 k.toNat = lane
    · rw [if_pos z, if_pos z]; split <;> rfl
    · rw [if_neg z, if_neg z]
theorem first_bad (P : Int → Prop) : ∀ w : Nat, (∀ j : Int, 0 ≤ j → j < w → P j) ∨ ∃ b : Nat, b < w ∧ ¬ P (b : Int) ∧ ∀ j : Int, 0 ≤ j → j < b → P j := by
  intro w
  induction w with
  | zero => exact Or.inl (fun j h1 h2 => by omega)
  | succ w ih =>
    rcases ih with h | ⟨b, h1, h2, h3⟩
    · by_cases z : P (w : Int)
      · refine Or.inl (fun j h1 h2 => ?_)
        by_cases y : j = (w : Int)
        · rw [y]; exact z
        · exact h j h1 (by omega)
      · exact Or.inr ⟨w, by omega, z, h⟩
    · exact Or.inr ⟨b, by omega, h2, h3⟩
theorem E_read_ok : E_read Inv := by
  intro μ H k lane f n g1 g2 g3 g4
  obtain ⟨c1, c2, c3, c4, c5, c6⟩ := H.c
  by_cases hk : 0 ≤ k ∧ k ≤ 3
  · by_cases hl : 0 ≤ lane ∧ lane ≤ 2
    · by_cases hn : 0 ≤ n ∧ n ≤ 8
      · have hk' : 0 ≤ k ∧ k < 4 := by omega
        have hS := H.2.2.2.1 k hk'.1 hk'.2
        obtain ⟨w, w1, w2, w3, w4⟩ := wholePairs_eq (μ := μ) (k := k) (lane := lane) (f := f) (n := n) hk' (hS.imp (fun z => z.1) (fun z => z.1)) g3 hn
        have hw0 : 0 < w → 0 ≤ f ∧ f + 2 * w ≤ 40 := fun z => by have := w3 z; omega
        -- the class up to its checking loop
        have eC : ww_read k lane f n μ = ww_read_54 BIG k lane f n (w : Int) 0 μ := by
          unfold ww_read ww_read_49
          rw [cIsSheet_eq, tT hk, isLane_eq, tT hl, if_neg (by omega), if_pos hn.2]
          by_cases z : n = 0
          · rw [if_pos z, show (w : Int) = 0 by omega]
          · rw [if_neg z, w1, Option.bind_some]
        have eM : ∀ μ1 : Mem, μ1 62 168 = μ 62 168 → mod_read k lane f n μ1 = mod_read_42 BIG k lane f n (μ 62 168) 0 0 0 μ1 := fun μ1 h => by
          unfold mod_read bnd
          dsimp only
          rw [mIsSheet_eq, tT ⟨hk, hl⟩, in_eq, tT hn, h]
        obtain ⟨Y, hY⟩ : ∃ Y : Int → Int, Y = rdY μ k f := ⟨_, rfl⟩
        obtain ⟨W, hW⟩ : ∃ W : Int → Int, W = rdW μ k f := ⟨_, rfl⟩
        -- cells on both sides are the same where pairs are whole
        have hcell : 0 < w → (∀ j : Int, 0 ≤ j → j < w → Y j = μ 87 (40 * k + f + 2 * j).toNat ∧ W j = μ 87 (40 * k + f + 2 * j + 1).toNat) := fun z j h1 h2 => by
          have w3 := w3 z
          rcases hS with hS | ⟨s1, s2, s3, s4, s5⟩
          · omega
          · have e1 := s5 (f + 2 * j) (by omega) (by omega)
            have e2 := s5 (f + 2 * j + 1) (by omega) (by omega)
            rw [hY, hW]
            unfold rdY rdW
            rw [show 40 * k + f + 2 * j = 40 * k + (f + 2 * j) by omega, show 40 * k + (f + 2 * j) + 1 = 40 * k + (f + 2 * j + 1) by omega]
            exact ⟨e1, e2⟩
        have hlane : 0 < w → μ 85 k.toNat ≠ -4 ∧ μ 85 k.toNat = lane ∧ μ 86 k.toNat = μ 60 k.toNat ∧ μ 60 k.toNat ≤ 40 := fun z => by
          have w3 := w3 z
          rcases hS with hS | ⟨s1, s2, s3, s4, s5⟩
          · omega
          · omega
        obtain ⟨G, hG⟩ : ∃ G, BIG = G + 20 := ⟨18446744073709551596, rfl⟩
        have okw : ∀ m : Nat, m ≤ w → (∀ j : Int, 0 ≤ j → j < m → rdOk μ k f j) → ∀ j : Int, 0 ≤ j → j < m → (0 ≤ Y j ∧ Y j ≤ μ 61 2) ∧ 0 ≤ W j ∧ W j ≤ 2 := fun m hm hb j h1 h2 => by
          have := hb j h1 h2
          rw [hY, hW]
          exact this.1
        have hcount : ∀ m : Nat, (∀ j : Int, 0 ≤ j → j < m → rdOk μ k f j) → μ 62 168 + m ≤ 8 := fun m hb => by
          by_cases z : m = 0
          · omega
          · have := (hb ((m : Int) - 1) (by omega) (by omega)).2
            omega
        rcases first_bad (rdOk μ k f) w with hall | ⟨b, b1, b2, b3⟩
        · -- all whole pairs are good
          have h8 := hcount w hall
          have hA := rd54 (μ := μ) (k := k) (lane := lane) (f := f) (n := n) (w := w) hk' hw0 g3 c1 c6 c3 (by omega) w BIG 0 (by omega) (by omega) (by omega) (fun j h1 h2 => hall j h1 (by omega))
          have hY4 : ∀ v : Int, ∀ j : Int, 0 ≤ j → j < w → Y j = rdY (mset μ 57 3 v) k f j ∧ W j = rdW (mset μ 57 3 v) k f j ∧ (0 ≤ Y j ∧ Y j ≤ 20) ∧ 0 ≤ W j ∧ W j ≤ 2 := fun v j h1 h2 => by
            have := okw w (by omega) hall j h1 h2
            refine ⟨?_, ?_, by omega, this.2⟩
            · rw [hY]; unfold rdY; rw [mset_ne (by omega)]
            · rw [hW]; unfold rdW; rw [mset_ne (by omega)]
          have hfin : ∀ v : Int, ww_read_157 k f (w : Int) v μ = some ((w : Int), adC Y W w 0 (mset μ 57 3 v)) := fun v => by
            unfold ww_read_157 bnd
            by_cases z : 0 < w
            · exact rd163 hk' (hw0 z) Y W w BIG 0 (mset μ 57 3 v) (by omega) (by omega) (by omega) (by rw [mset_ne (by omega)]; omega) (by rw [mset_ne (by omega)]; omega) (hY4 v)
            · have : w = 0 := by omega
              subst this
              dsimp only
              rw [hG, ww_read_163.eq_2, if_pos (by omega)]; rfl
          obtain ⟨v, hv⟩ : ∃ v : Int, v = if n ≤ (w : Int) then 0 else rsn μ k lane := ⟨_, rfl⟩
          have f0 : ∀ a j, a ≠ 8 → ¬ (a = 1 ∧ j = 11) → ¬ (a = 57 ∧ j = 3) → adC Y W w 0 (mset μ 57 3 v) a j = μ a j := fun a j z1 z2 z3 => by
            rw [adC_off _ _ _ _ _ _ _ z1 z2, mset_ne z3]
          refine ⟨(w : Int), adC Y W w 0 (mset μ 57 3 v), mset (adM Y W w 0 (adC Y W w 0 (mset μ 57 3 v))) 61 39 v, ?_, ?_, readInv H Y W h8 (okw w (by omega) hall)⟩
          · rw [eC, hA, Int.zero_add, show BIG - w = (G + 19 - w) + 1 by omega, ww_read_54.eq_2, if_pos (by omega)]
            by_cases z : n = 0
            · rw [if_pos z, hfin, hv, if_pos (by omega)]
            · rw [if_neg z, faultOfPairs_eq hk' (hS.imp id (fun s => ⟨s.1, s.2.2.1, s.2.2.2.1.1⟩)), Option.bind_some, hfin, hv]
              congr 4
              unfold rsn
              by_cases y1 : μ 85 k.toNat = -4
              · rw [if_pos y1, if_pos y1]
                by_cases y2 : n ≤ (w : Int)
                · have := hlane (by omega); omega
                · rw [if_neg y2]
              · rw [if_neg y1, if_neg y1]
                by_cases y2 : μ 85 k.toNat = lane
                · rw [if_pos y2, if_pos y2]
                · rw [if_neg y2, if_neg y2]
                  by_cases y3 : n ≤ (w : Int)
                  · have := hlane (by omega); omega
                  · rw [if_neg y3]
          · rw [eM _ (f0 _ _ (by omega) (by omega) (by omega))]
            have hM42 : mod_read_42 BIG k lane f n (μ 62 168) 0 0 0 (adC Y W w 0 (mset μ 57 3 v)) = mod_read_42 (BIG - w) k lane f n (μ 62 168) 0 (w : Int) (w : Int) (adM Y W w 0 (adC Y W w 0 (mset μ 57 3 v))) := by
              by_cases z : 0 < w
              · have hl2 := hlane z
                have hw3 := w3 z
                have hc2 := hcell z
                have h := mrd42 (k := k) (lane := lane) (f := f) (n := n) (had := μ 62 168) (w := w) hk' Y W ⟨hn.2, w2⟩ (hw0 z).1 w BIG 0 (adC Y W w 0 (mset μ 57 3 v)) (by omega) (by omega) (by omega) (by rw [f0 _ _ (by omega) (by omega) (by omega)]; omega) (by rw [f0 _ _ (by omega) (by omega) (by omega)]; omega) (by rw [f0 _ _ (by omega) (by omega) (by omega)]; omega) (by rw [f0 _ _ (by omega) (by omega) (by omega)]; exact hl2.1) (by rw [f0 _ _ (by omega) (by omega) (by omega)]; exact hl2.2.1) (by rw [f0 _ _ (by omega) (by omega) (by omega)]; omega) (by rw [f0 _ _ (by omega) (by omega) (by omega)]; omega) (fun j z1 z2 => by rw [f0 _ _ (by omega) (by omega) (by omega), f0 _ _ (by omega) (by omega) (by omega)]; exact hc2 j z1 z2) (fun j z1 z2 => by rw [f0 _ _ (by omega) (by omega) (by omega)]; exact okw w (by omega) hall j z1 (by omega))
                rw [Int.zero_add] at h
                exact h
              · have : w = 0 := by omega
                subst this
                simp [adM, adC]
            rw [hM42]
            have q : ∀ a j, a ≠ 8 → ¬ (a = 1 ∧ j = 11) → ¬ (a = 57 ∧ j = 3) → a ≠ 62 → adM Y W w 0 (adC Y W w 0 (mset μ 57 3 v)) a j = μ a j := fun a j z1 z2 z3 z4 => by
              rw [adM_off _ _ _ _ _ _ _ (by rw [f0 _ _ (by omega) (by omega) (by omega)]; omega) (by omega), f0 a j z1 z2 z3]
            by_cases z : n ≤ (w : Int)
            · rw [hv, if_pos z, show BIG - w = (G + 19 - w) + 1 by omega]
              rw [hv, if_pos z] at *
              exact mrd42_end (Or.inl z)
            · have hr : rsn (adM Y W w 0 (adC Y W w 0 (mset μ 57 3 v))) k lane = rsn μ k lane := by
                unfold rsn; rw [q _ _ (by omega) (by omega) (by omega) (by omega)]
              have hv' : v = rsn μ k lane := by rw [hv, if_neg z]
              have hz4 := w4 (by omega)
              obtain ⟨F, hF⟩ := BIG8
              rw [show BIG - w = (G + 18 - w) + 1 + 1 by omega, mod_read_42.eq_2, if_neg (by omega), if_pos rfl, hF, mrd57_torn (g := F + 1 + 1 + 1 + 1 + 1 + 1 + 1) hk' g3 (by omega) ?_ ?_, hr, ← hv']
              · refine mrd42_end (Or.inr ?_)
                rw [hv']
                unfold rsn
                split
                · omega
                · split <;> omega
              · rw [q _ _ (by omega) (by omega) (by omega) (by omega), q _ _ (by omega) (by omega) (by omega) (by omega)]
                intro y
                rcases hS with hS | ⟨s1, s2, s3, s4, s5⟩
                · exact absurd hS.2 y
                · omega
              · rw [q _ _ (by omega) (by omega) (by omega) (by omega), q _ _ (by omega) (by omega) (by omega) (by omega)]
                rcases hS with hS | ⟨s1, s2, s3, s4, s5⟩
                · exact Or.inl hS.2
                · rcases hz4 with y | y | y | y
                  · omega
                  · exact Or.inr (Or.inl (by rw [← s3]; exact y))
                  · refine Or.inr (Or.inr (Or.inl ⟨y, ?_⟩))
                    by_cases z0 : 0 < w
                    · have := hw0 z0; omega
                    · omega
                  · exact Or.inr (Or.inr (Or.inr (by omega)))
        · -- a pair is refused
          have h8 := hcount b b3
          have z : 0 < w := by omega
          have hl2 := hlane z
          have hw3 := w3 z
          have hc2 := hcell z
          refine ⟨-20 - (b : Int), μ, mset (adM Y W b 0 μ) 62 168 (μ 62 168), ?_, ?_, readBad H Y W h8⟩
          · have hA := rd54 (μ := μ) (k := k) (lane := lane) (f := f) (n := n) (w := w) hk' hw0 g3 c1 c6 c3 (by omega) b BIG 0 (by omega) (by omega) (by omega) (fun j h1 h2 => b3 j h1 (by omega))
            rw [eC, hA, Int.zero_add, show BIG - b = (G + 19 - b) + 1 by omega]
            exact rd54_bad hk' (hw0 z) c1 c6 c3 (by omega) b2
          · rw [eM _ rfl]
            have h := mrd42 (k := k) (lane := lane) (f := f) (n := n) (had := μ 62 168) (w := w) hk' Y W ⟨hn.2, w2⟩ (hw0 z).1 b BIG 0 μ (by omega) (by omega) (by omega) (by omega) (by omega) (by omega) hl2.1 hl2.2.1 (by omega) (by omega) hc2 (fun j z1 z2 => okw b (by omega) b3 j z1 (by omega))
            rw [Int.zero_add] at h
            have q : ∀ a j, a ≠ 62 → adM Y W b 0 μ a j = μ a j := fun a j z4 => adM_off _ _ _ _ _ _ _ (by omega) (by omega)
            rw [h, show BIG - b = (G + 19 - b) + 1 by omega]
            refine mrd42_bad hk' (hw0 z).1 (by omega) (by rw [adM168]; omega) (by rw [q _ _ (by omega)]; exact hl2.1) (by rw [q _ _ (by omega)]; exact hl2.2.1) (by rw [q _ _ (by omega)]; omega) (by rw [q _ _ (by omega)]; omega) ?_
            rw [q _ _ (by omega), q _ _ (by omega), q _ _ (by omega), adM168, ← (hc2 (b : Int) (by omega) (by omega)).1, ← (hc2 (b : Int) (by omega) (by omega)).2, hY, hW]
            exact b2
      · refine ⟨-1, μ, μ, ?_, ?_, H⟩
        · unfold ww_read
          rw [cIsSheet_eq, tT hk, isLane_eq, tT hl]
          by_cases h0 : n < 0
          · rw [if_pos h0]
          · rw [if_neg h0, if_neg (by omega)]
        · unfold mod_read
          rw [mIsSheet_eq, tT ⟨hk, hl⟩, in_eq, tF hn]
    · refine ⟨-1, μ, μ, ?_, ?_, H⟩
      · unfold ww_read
        rw [cIsSheet_eq, tT hk, isLane_eq, tF hl]
      · unfold mod_read
        rw [mIsSheet_eq, tF (fun z => hl z.2)]
  · refine ⟨-1, μ, μ, ?_, ?_, H⟩
    · unfold ww_read
      rw [cIsSheet_eq, tF hk]
    · unfold mod_read
      rw [mIsSheet_eq, tF (fun z => hk z.1)]
