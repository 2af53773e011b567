/-! ===== way, both ===== -/
theorem E_way_ok : E_way Inv := by
  intro μ H c b x3 g1 g2 g3
  obtain ⟨c1, c2, c3, c4, c5, c6⟩ := H.c
  obtain ⟨hR, hM, hO, hT⟩ := H.R
  have hB := BIG_gt
  have hb := hO.r.1
  have ev : (0 ≤ x3 ∧ x3 ≤ 2 ∨ 10 ≤ x3) → ww_way c b x3 μ = ww_way_20 c b x3 1 μ := fun h => by
    rw [ww_way.eq_1, ww_way_9.eq_1]
    by_cases z : x3 < 0
    · omega
    · rw [if_neg z]
      by_cases y : x3 ≤ 2
      · rw [if_pos y]
      · rw [if_neg y, if_neg (by omega)]
  have en : ¬ (0 ≤ x3 ∧ x3 ≤ 2 ∨ 10 ≤ x3) → ww_way c b x3 μ = ww_way_20 c b x3 0 μ := fun h => by
    rw [ww_way.eq_1, ww_way_9.eq_1]
    by_cases z : x3 < 0
    · rw [if_pos z, if_pos (by omega)]
    · rw [if_neg z, if_neg (by omega), if_pos (by omega)]
  have c20n : ¬ ((0 ≤ c ∧ c < μ 62 0) ∧ (0 ≤ b ∧ b ≤ 1)) → ∀ o, ww_way_20 c b x3 o μ = some (-1, μ) := fun h o => by
    rw [ww_way_20.eq_1, hasCart_eq, c2]
    by_cases z : 0 ≤ c ∧ c < μ 62 0
    · rw [tT z]
      by_cases y : b < 0
      · rw [if_pos y]
      · rw [if_neg y, if_pos (by omega)]
    · rw [tF z]
  have mneg : ∀ ν : Mem, ν 62 = μ 62 → ¬ ((0 ≤ c ∧ c < μ 62 0) ∧ (0 ≤ b ∧ b ≤ 1) ∧ (0 ≤ x3 ∧ x3 ≤ 2 ∨ 10 ≤ x3)) → mod_way c b x3 ν = some (-1, ν) := fun ν e h => by
    rw [mod_way.eq_1, mIsCart_eq (by rw [e]; exact c5), e]
    by_cases z : 0 ≤ c ∧ c < μ 62 0
    · rw [tT z, in_eq]
      by_cases y : 0 ≤ b ∧ b ≤ 1
      · rw [tT y, in_eq]
        have n : ¬ (0 ≤ x3 ∧ x3 ≤ 2 ∨ 10 ≤ x3) := fun q => h ⟨z, y, q⟩
        rw [tF (show ¬ (0 ≤ x3 ∧ x3 ≤ 2) by omega), if_neg (by omega)]
      · rw [tF y]
    · rw [tF z]
  by_cases k : (0 ≤ c ∧ c < μ 62 0) ∧ (0 ≤ b ∧ b ≤ 1)
  · by_cases kx : 0 ≤ x3 ∧ x3 ≤ 2 ∨ 10 ≤ x3
    · have hc : 0 ≤ c ∧ c < mR μ 0 0 1 := k.1
      have hpc := hO.2.2.2.2.2.2.1 c hc.1 hc.2
      obtain ⟨r, μ1, x1, x2, x4, x5, x6, x7, x8, x9⟩ := cfind (b := b) hR hO hc
      have hM1 : MC μ1 0 (mR μ 0) := hM.off (x2 _ _ (by unfold M5152; omega)) (fun a h1 h2 h3 => x2.cell (fun j => by unfold M5152; omega))
      obtain ⟨q, ν, y1, y2, y3, y4, y5⟩ := mfind (b := b) hM1 hO hc
      have hMν : MC ν 0 (mR μ 0) := hM1.way y2
      have hq := eqv_of (tkW (c := c) (b := b) hO) x8 x9 y4 y5
      have hI : Inv ν := H.scr ((x2.mono (fun a j z => by unfold M5152 at z; unfold Scr; omega)).tr (y2.mono (fun a j z => by unfold M83 at z; unfold Scr; omega)))
      obtain ⟨s, hs⟩ : ∃ s, s = 3 * pt (mR μ 0) c 4 + pt (mR μ 0) c 1 := ⟨_, rfl⟩
      have s1 : 0 ≤ s ∧ s < 3 * mR μ 0 0 0 + 3 := by omega
      have s2 : 0 ≤ s ∧ s < 63 := by omega
      have hbeg : way_begin μ1 = some s := by
        rw [way_begin.eq_1, x5, cpart x4.r (by omega) (by omega), Option.bind_some, cpart x4.r (by omega) (by omega), Option.bind_some, rut_eq (by omega), Option.bind_some, hs]
      have hat : ww_at 52 63 μ1 s = some (if r s < 0 then 2000000000 else r s) := by rw [at_in (by omega), x7 s s2.1 s2.2]
      have e62 : μ1 62 = μ 62 := x2.cell (fun j => by unfold M5152; omega)
      have m38 : mod_way c b x3 μ1 = mod_way_38 c b x3 μ1 := by
        rw [mod_way.eq_1, mIsCart_eq (by rw [e62]; exact c5), e62, tT k.1, in_eq, tT k.2, in_eq]
        by_cases z : 0 ≤ x3 ∧ x3 ≤ 2
        · rw [tT z]
        · rw [tF z, if_pos (by omega)]
      have hld : ld ν 83 63 s = some (if q s < 0 then 1000000000 else q s) := by rw [ld_ok (by omega), y3 s s2.1 s2.2]
      have hstart : mod_way c b x3 μ1 = (some (if q s < 0 then 1000000000 else q s)).bind fun v5 => if v5 = 1000000000 then (some ((-4), ν)) else (if x3 = 2 then (some (iRem v5 1000, ν)) else (if 2 ≤ x3 then (if (wI (x3 - 10)) < (iRem v5 1000) then (mod_way_146 BIG c b x3 s (-4) 0 ν) else (some ((-4), ν))) else (if x3 = b then (some (iDiv v5 1000000, ν)) else (some (iRem (iDiv v5 1000) 1000, ν))))) := by
        rw [m38, mod_way_38.eq_1, y1, Option.bind_some, mpart hMν (by omega) (by omega), Option.bind_some, mpart hMν (by omega) (by omega), Option.bind_some, bnd.eq_1, wI_id (x := 3 * pt (mR μ 0) c 4) (by omega), wI_id (by omega), ← hs, hld]
      have hcls : ww_way c b x3 μ = (way_isFound μ1).bind fun u3 => if u3 = 0 then (some ((-4), μ1)) else (if x3 = 0 then ((way_money μ1).bind fun u4 => some (u4, μ1)) else (if x3 = 1 then ((way_hours μ1).bind fun u5 => some (u5, μ1)) else (if x3 = 2 then ((way_acts μ1).bind fun u6 => some (u6, μ1)) else ((way_actAt μ1 (wI (x3 - 10))).bind fun u7 => some (u7, μ1))))) := by
        rw [ev kx, ww_way_20.eq_1, hasCart_eq, c2, tT k.1, if_neg (by omega), if_neg (by omega), if_neg (by omega), x1, Option.bind_some]
      by_cases z : r s < 0
      · have zq : q s < 0 := by
          refine Decidable.byContradiction (fun n => ?_)
          have := hq s s2.1 s2.2 (Or.inr (by omega))
          omega
        refine ⟨-4, μ1, ν, ?_, ?_, hI⟩
        · rw [hcls, way_isFound.eq_1, hbeg, Option.bind_some, hat, if_pos z, Option.bind_some, if_pos (by omega), Option.bind_some, if_pos rfl]
        · rw [hstart, if_pos zq, Option.bind_some, if_pos rfl]
      · have eq : r s = q s := hq s s2.1 s2.2 (Or.inl (by omega))
        have top := x8.top s2.1 s2.2
        rw [if_neg z] at hat
        rw [if_neg (show ¬ q s < 0 by omega), Option.bind_some, if_neg (by omega), ← eq] at hstart
        have hF : way_isFound μ1 = some 1 := by rw [way_isFound.eq_1, hbeg, Option.bind_some, hat, Option.bind_some, if_neg (by omega)]
        rw [hF, Option.bind_some, if_neg (by omega)] at hcls
        have hfirst : way_first μ1 = some (r s / 1000000) := by
          rw [way_first.eq_1, hbeg, Option.bind_some, hat, Option.bind_some, iDiv_eq (x := r s) (by omega) (by omega), iDiv_eq (by omega) (by omega)]
          congr 1; omega
        have hsecond : way_second μ1 = some (r s / 1000 % 1000) := by
          rw [way_second.eq_1, hbeg, Option.bind_some, hat, Option.bind_some, iDiv_eq (x := r s) (by omega) (by omega), iRem_eq (by omega) (by omega)]
        have hacts : way_acts μ1 = some (r s % 1000) := by
          rw [way_acts.eq_1, hbeg, Option.bind_some, hat, Option.bind_some, iRem_eq (by omega) (by omega)]
        have d1 : iDiv (r s) 1000000 = r s / 1000000 := iDiv_eq (by omega) (by omega)
        have d2 : iRem (iDiv (r s) 1000) 1000 = r s / 1000 % 1000 := by rw [iDiv_eq (by omega) (by omega), iRem_eq (by omega) (by omega)]
        have d3 : iRem (r s) 1000 = r s % 1000 := iRem_eq (by omega) (by omega)
        rw [d1, d2, d3] at hstart
        have hmon : way_money μ1 = some (if b = 0 then r s / 1000000 else r s / 1000 % 1000) := by
          rw [way_money.eq_1, x6, hsecond, hfirst]
          by_cases y : b = 0
          · rw [if_pos y, if_neg (by omega), if_pos y]; rfl
          · rw [if_neg y, if_pos rfl, if_neg y]; rfl
        have hhou : way_hours μ1 = some (if b = 0 then r s / 1000 % 1000 else r s / 1000000) := by
          rw [way_hours.eq_1, x6, hsecond, hfirst]
          by_cases y : b = 0
          · rw [if_pos y, if_neg (by omega), if_pos y]; rfl
          · rw [if_neg y, if_pos rfl, if_neg y]; rfl
        by_cases k0 : x3 = 0
        · rw [if_pos k0, hmon, Option.bind_some] at hcls
          rw [if_neg (by omega), if_neg (by omega)] at hstart
          refine ⟨_, μ1, ν, hcls, ?_, hI⟩
          rw [hstart]
          by_cases y : b = 0
          · rw [if_pos y, if_pos (by omega)]
          · rw [if_neg y, if_neg (by omega)]
        · by_cases k1 : x3 = 1
          · rw [if_neg k0, if_pos k1, hhou, Option.bind_some] at hcls
            rw [if_neg (by omega), if_neg (by omega)] at hstart
            refine ⟨_, μ1, ν, hcls, ?_, hI⟩
            rw [hstart]
            by_cases y : b = 0
            · rw [if_pos y, if_neg (by omega)]
            · rw [if_neg y, if_pos (by omega)]
          · by_cases k2 : x3 = 2
            · rw [if_neg k0, if_neg k1, if_pos k2, hacts, Option.bind_some] at hcls
              rw [if_pos k2] at hstart
              exact ⟨_, μ1, ν, hcls, hstart, hI⟩
            · rw [if_neg k0, if_neg k1, if_neg k2, wI_id (by omega), way_actAt.eq_1, hacts, Option.bind_some, hbeg, Option.bind_some] at hcls
              rw [if_neg k2, if_pos (by omega), wI_id (by omega)] at hstart
              by_cases y : x3 - 10 < r s % 1000
              · rw [if_pos y] at hcls hstart
                obtain ⟨n, hn⟩ : ∃ n : Nat, (n : Int) = x3 - 10 := ⟨(x3 - 10).toNat, by omega⟩
                obtain ⟨a, ha⟩ := At_ex (tkW (c := c) (b := b) hO) x8 x9 n s s2.1 s2.2 (by omega) (by omega)
                have ha' := At_eqv (tkW (c := c) (b := b) hO) hq n s a s2.1 s2.2 (by omega) ha
                rw [cactAt x4 hO x5 x6 hc x7 x8 (x3 - 10) (by omega) n BIG s 0 (by omega) (by omega) (by omega) s2.1 s2.2 (by omega) ha, Option.bind_some] at hcls
                rw [mway146 hMν hO hc y3 y4 x3 (by omega) n BIG s (-4) 0 (by omega) (by omega) (by omega) s1.1 s1.2 (by omega) ha'] at hstart
                exact ⟨_, μ1, ν, hcls, hstart, hI⟩
              · rw [if_neg y, Option.bind_some] at hcls
                rw [if_neg y] at hstart
                exact ⟨_, μ1, ν, hcls, hstart, hI⟩
    · refine ⟨-1, μ, μ, ?_, mneg μ rfl (fun q => kx q.2.2), H⟩
      rw [en kx, ww_way_20.eq_1, hasCart_eq, c2, tT k.1, if_neg (by omega), if_neg (by omega), if_pos rfl]
  · refine ⟨-1, μ, μ, ?_, mneg μ rfl (fun q => k ⟨q.1, q.2.1⟩), H⟩
    by_cases kx : 0 ≤ x3 ∧ x3 ≤ 2 ∨ 10 ≤ x3
    · rw [ev kx, c20n k]
    · rw [en kx, c20n k]
