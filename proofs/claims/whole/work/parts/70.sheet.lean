/-! ===== sheets ===== -/
theorem cellsOf_eq {μ : Mem} {k : Int} (h : 0 ≤ k ∧ k < 4) : she_cellsOf μ k = some (μ 60 k.toNat) := by
  unfold she_cellsOf
  rw [if_neg (by omega), if_neg (by omega), ld_ok (by omega), Option.bind_some]
theorem make_21_eq (k n : Nat) (hk : k < 4) (hn : n ≤ 40) : ∀ (f i : Nat) (μ : Mem), i ≤ n → n - i < f → she_make_21 f (k : Int) (n : Int) (i : Int) μ = some (fun a j => if a = 58 ∧ 40 * k + i ≤ j ∧ j < 40 * k + n then 0 else μ a j) := by
  intro f
  induction f with
  | zero => intro i μ h1 h2; omega
  | succ f ih =>
    intro i μ h1 h2
    rw [she_make_21.eq_2]
    by_cases h : (n : Int) ≤ i
    · rw [if_pos h]
      congr 1
      funext a j
      rw [if_neg (by omega)]
    · rw [if_neg h, wI_id (x := (k : Int) * 40) (by omega), wI_id (x := (k : Int) * 40 + i) (by omega), put_in (by omega), Option.bind_some, wI_id (by omega)]
      rw [show ((i : Int) + 1) = ((i + 1 : Nat) : Int) by omega, ih (i + 1) _ (by omega) (by omega)]
      congr 1
      funext a j
      rw [show ((k : Int) * 40 + i).toNat = 40 * k + i by omega, mset_ap]
      by_cases h1 : a = 58 ∧ 40 * k + (i + 1) ≤ j ∧ j < 40 * k + n
      · rw [if_pos h1, if_pos (by omega)]
      · rw [if_neg h1]
        by_cases h2 : a = 58 ∧ j = 40 * k + i
        · rw [if_pos h2, if_pos (by omega)]
        · rw [if_neg h2, if_neg (by omega)]
theorem sheet_40_eq (k : Nat) (hk : k < 4) : ∀ (f i : Nat) (μ : Mem), i ≤ 40 → 40 - i < f → mod_sheet_40 f (k : Int) (i : Int) μ = some (1, fun a j => if a = 87 ∧ 40 * k + i ≤ j ∧ j < 40 * k + 40 then 0 else μ a j) := by
  intro f
  induction f with
  | zero => intro i μ h1 h2; omega
  | succ f ih =>
    intro i μ h1 h2
    rw [mod_sheet_40.eq_2]
    by_cases h : (40 : Int) ≤ i
    · rw [if_pos h]
      congr 2
      funext a j
      rw [if_neg (by omega)]
    · rw [if_neg h, wI_id (x := 40 * (k : Int)) (by omega), wI_id (x := 40 * (k : Int) + i) (by omega), stx_ok (by omega), Option.bind_some, wI_id (by omega)]
      rw [show ((i : Int) + 1) = ((i + 1 : Nat) : Int) by omega, ih (i + 1) _ (by omega) (by omega)]
      congr 2
      funext a j
      rw [show (40 * (k : Int) + i).toNat = 40 * k + i by omega, mset_ap]
      by_cases h1 : a = 87 ∧ 40 * k + (i + 1) ≤ j ∧ j < 40 * k + 40
      · rw [if_pos h1, if_pos (by omega)]
      · rw [if_neg h1]
        by_cases h2 : a = 87 ∧ j = 40 * k + i
        · rw [if_pos h2, if_pos (by omega)]
        · rw [if_neg h2, if_neg (by omega)]
/-- slots of the sheets and scratch -/
def Shw (a j : Nat) : Prop := Scr a j ∨ (58 ≤ a ∧ a ≤ 60) ∨ (85 ≤ a ∧ a ≤ 87) ∨ (a = 57 ∧ j = 3) ∨ (a = 61 ∧ j = 39)
theorem Inv.sheets {μ μ' : Mem} (h : Off Shw μ μ') (h1 : Isheet μ') (h2 : Itorn μ') (H : Inv μ) : Inv μ' := by
  obtain ⟨a1, a2, a3, a4, a5, a6, a7⟩ := H
  have q : ∀ a, ¬ ((27 ≤ a ∧ a ≤ 49) ∨ (51 ≤ a ∧ a ≤ 61) ∨ (68 ≤ a ∧ a ≤ 73) ∨ (75 ≤ a) ∨ a = 0 ∨ a = 25) → μ' a = μ a := fun a n => h.cell (fun j => by unfold Shw Scr; omega)
  have hm : SmM μ μ' := ⟨h 61 2 (by unfold Shw Scr; omega), q _ (by omega), q _ (by omega), q _ (by omega), q _ (by omega), q _ (by omega)⟩
  exact ⟨a1.same hm (fun a _ _ => q _ (by omega)), a2.same hm (q _ (by omega)) (h _ _ (by unfold Shw Scr; omega)) (fun a _ _ => q _ (by omega)), a3.same (h _ _ (by unfold Shw Scr; omega)) (h _ _ (by unfold Shw Scr; omega)) (q _ (by omega)) (q _ (by omega)), h1, a5.same (h _ _ (by unfold Shw Scr; omega)) (h _ _ (by unfold Shw Scr; omega)), h2, a7.same hm.1 (fun j _ => by rw [hm.2.1]) hm.2.2.1 hm.2.2.2.1 hm.2.2.2.2.2 (fun j _ _ => h _ _ (by unfold Shw Scr; omega)) (q _ (by omega))⟩
def shC (μ : Mem) (k n : Nat) (x : Int) : Mem := fun a j => if a = 58 ∧ 40 * k + 0 ≤ j ∧ j < 40 * k + n then 0 else mset (mset μ 59 k x) 60 k (n : Int) a j
def shM (μ : Mem) (k n : Nat) (x : Int) : Mem := fun a j => if a = 87 ∧ 40 * k + 0 ≤ j ∧ j < 40 * k + 40 then 0 else mset (mset (shC μ k n x) 85 k x) 86 k (n : Int) a j
theorem E_sheet_ok : E_sheet Inv := by
  intro μ H x1 x2 x3 g1 g2 g3
  by_cases h : (0 ≤ x1 ∧ x1 ≤ 3) ∧ 0 ≤ x2 ∧ x2 ≤ 2
  · by_cases h40 : x3 ≤ 40
    · by_cases h0 : 0 ≤ x3
      · obtain ⟨k, rfl⟩ : ∃ k : Nat, x1 = (k : Int) := ⟨x1.toNat, by omega⟩
        obtain ⟨n, rfl⟩ : ∃ n : Nat, x3 = (n : Int) := ⟨x3.toNat, by omega⟩
        have hA := make_21_eq k n (by omega) (by omega) BIG 0 (mset (mset μ 59 k x2) 60 k (n : Int)) (by omega) (by have := BIG_gt; omega)
        have hB := sheet_40_eq k (by omega) BIG 0 (mset (mset (shC μ k n x2) 85 k x2) 86 k (n : Int)) (by omega) (by have := BIG_gt; omega)
        refine ⟨1, shC μ k n x2, shM μ k n x2, ?_, ?_, ?_⟩
        · unfold ww_sheet she_make
          rw [cIsSheet_eq, tT h.1, isLane_eq, tT h.2, if_pos h40, if_pos h0, put_in (by omega), Option.bind_some, put_in (by omega), Option.bind_some, Int.toNat_natCast]
          exact congrArg (fun z => z.bind fun μ3 => some ((1 : Int), μ3)) hA
        · unfold mod_sheet
          rw [mIsSheet_eq, tT h, if_pos h40, if_pos h0, stx_ok (by omega), Option.bind_some, stx_ok (by omega), Option.bind_some, Int.toNat_natCast]
          exact hB
        · refine H.sheets (fun a j n => ?_) (fun k' z1 z2 => ?_) ?_
          · have n1 : ¬ a = 87 := fun z => n (by unfold Shw; omega)
            have n2 : ¬ a = 86 := fun z => n (by unfold Shw; omega)
            have n3 : ¬ a = 85 := fun z => n (by unfold Shw; omega)
            have n4 : ¬ a = 58 := fun z => n (by unfold Shw; omega)
            have n5 : ¬ a = 59 := fun z => n (by unfold Shw; omega)
            have n6 : ¬ a = 60 := fun z => n (by unfold Shw; omega)
            unfold shM shC
            rw [if_neg (by omega), mset_ne (by omega), mset_ne (by omega), if_neg (by omega), mset_ne (by omega), mset_ne (by omega)]
          · have hs := H.2.2.2.1 k' z1 z2
            have e60 : ∀ j, shM μ k n x2 60 j = if j = k then (n : Int) else μ 60 j := fun j => by
              unfold shM shC
              rw [if_neg (by omega), mset_ne (by omega), mset_ne (by omega), if_neg (by omega), mset_ap]
              by_cases z : j = k
              · rw [if_pos ⟨rfl, z⟩, if_pos z]
              · rw [if_neg (by omega), if_neg z, mset_ne (by omega)]
            have e59 : ∀ j, shM μ k n x2 59 j = if j = k then x2 else μ 59 j := fun j => by
              unfold shM shC
              rw [if_neg (by omega), mset_ne (by omega), mset_ne (by omega), if_neg (by omega), mset_ne (by omega), mset_ap]
              by_cases z : j = k
              · rw [if_pos ⟨rfl, z⟩, if_pos z]
              · rw [if_neg (by omega), if_neg z]
            have e85 : ∀ j, shM μ k n x2 85 j = if j = k then x2 else μ 85 j := fun j => by
              unfold shM shC
              rw [if_neg (by omega), mset_ne (by omega), mset_ap]
              by_cases z : j = k
              · rw [if_pos ⟨rfl, z⟩, if_pos z]
              · rw [if_neg (by omega), if_neg z, if_neg (by omega), mset_ne (by omega), mset_ne (by omega)]
            have e86 : ∀ j, shM μ k n x2 86 j = if j = k then (n : Int) else μ 86 j := fun j => by
              unfold shM shC
              rw [if_neg (by omega), mset_ap]
              by_cases z : j = k
              · rw [if_pos ⟨rfl, z⟩, if_pos z]
              · rw [if_neg (by omega), if_neg z, mset_ne (by omega), if_neg (by omega), mset_ne (by omega), mset_ne (by omega)]
            have e58 : ∀ j, shM μ k n x2 58 j = if 40 * k ≤ j ∧ j < 40 * k + n then 0 else μ 58 j := fun j => by
              unfold shM shC
              rw [if_neg (by omega), mset_ne (by omega), mset_ne (by omega)]
              by_cases z : 40 * k ≤ j ∧ j < 40 * k + n
              · rw [if_pos (by omega), if_pos z]
              · rw [if_neg (by omega), if_neg z, mset_ne (by omega), mset_ne (by omega)]
            have e87 : ∀ j, shM μ k n x2 87 j = if 40 * k ≤ j ∧ j < 40 * k + 40 then 0 else μ 87 j := fun j => by
              unfold shM shC
              by_cases z : 40 * k ≤ j ∧ j < 40 * k + 40
              · rw [if_pos (by omega), if_pos z]
              · rw [if_neg (by omega), if_neg z, mset_ne (by omega), mset_ne (by omega), if_neg (by omega), mset_ne (by omega), mset_ne (by omega)]
            rw [e60, e59, e85, e86]
            by_cases z : k'.toNat = k
            · right
              rw [if_pos z, if_pos z, if_pos z, if_pos z]
              refine ⟨by omega, rfl, rfl, h.2, fun i i1 i2 => ?_⟩
              rw [e58, e87, if_pos (by omega), if_pos (by omega)]
            · rw [if_neg z, if_neg z, if_neg z, if_neg z]
              refine hs.imp id (fun hs => ⟨hs.1, hs.2.1, hs.2.2.1, hs.2.2.2.1, fun i i1 i2 => ?_⟩)
              rw [e58, e87, if_neg (by omega), if_neg (by omega)]
              exact hs.2.2.2.2 i i1 i2
          · unfold Itorn
            unfold shM shC
            rw [if_neg (by omega), mset_ne (by omega), mset_ne (by omega), if_neg (by omega), mset_ne (by omega), mset_ne (by omega), if_neg (by omega), mset_ne (by omega), mset_ne (by omega), if_neg (by omega), mset_ne (by omega), mset_ne (by omega)]
            exact H.2.2.2.2.2.1
      · refine ⟨-14, μ, μ, ?_, ?_, H⟩
        · unfold ww_sheet
          rw [cIsSheet_eq, tT h.1, isLane_eq, tT h.2, if_pos h40, if_neg h0]
        · unfold mod_sheet
          rw [mIsSheet_eq, tT h, if_pos h40, if_neg h0]
    · refine ⟨-1, μ, μ, ?_, ?_, H⟩
      · unfold ww_sheet
        rw [cIsSheet_eq, tT h.1, isLane_eq, tT h.2, if_neg h40]
      · unfold mod_sheet
        rw [mIsSheet_eq, tT h, if_neg h40]
  · refine ⟨-1, μ, μ, ?_, ?_, H⟩
    · unfold ww_sheet
      rw [cIsSheet_eq, isLane_eq]
      by_cases h1 : 0 ≤ x1 ∧ x1 ≤ 3
      · rw [tT h1, tF (fun z => h ⟨h1, z⟩)]
      · rw [tF h1]
    · unfold mod_sheet
      rw [mIsSheet_eq, tF h]
theorem layInv {μ : Mem} (H : Inv μ) {k i v : Int} (hk : 0 ≤ k ∧ k < 4) (hi : 0 ≤ i ∧ i < 40) : Inv (mset (mset μ 58 (40 * k + i).toNat v) 87 (40 * k + i).toNat v) := by
  refine H.sheets ((Off.rf.set (by unfold Shw; omega)).set (by unfold Shw; omega)) (fun k' z1 z2 => ?_) ?_
  · have hs := H.2.2.2.1 k' z1 z2
    have q : ∀ a, a ≠ 58 → a ≠ 87 → mset (mset μ 58 (40 * k + i).toNat v) 87 (40 * k + i).toNat v a = μ a := fun a n1 n2 => by rw [mset_off n2, mset_off n1]
    rw [q 60 (by omega) (by omega), q 85 (by omega) (by omega), q 86 (by omega) (by omega), q 59 (by omega) (by omega)]
    refine hs.imp id (fun hs => ⟨hs.1, hs.2.1, hs.2.2.1, hs.2.2.2.1, fun j i1 i2 => ?_⟩)
    rw [mset_off (show 58 ≠ 87 by omega), mset_ap, mset_ap, mset_off (show 87 ≠ 58 by omega)]
    by_cases z : (40 * k' + j).toNat = (40 * k + i).toNat
    · rw [if_pos ⟨rfl, z⟩, if_pos ⟨rfl, z⟩]
    · rw [if_neg (by omega), if_neg (by omega)]
      exact hs.2.2.2.2 j i1 i2
  · unfold Itorn
    rw [mset_ne (by omega), mset_ne (by omega), mset_ne (by omega), mset_ne (by omega)]
    exact H.2.2.2.2.2.1
theorem E_lay_ok : E_lay Inv := by
  intro μ H x1 x2 x3 g1 g2 g3
  by_cases h : 0 ≤ x1 ∧ x1 ≤ 3
  · have hs := H.2.2.2.1 x1 h.1 (by omega)
    have eC : ∀ c r, she_faultOf μ x1 x2 = some c → c ≠ 0 → wI (-10 - c) = r → ww_lay x1 x2 x3 μ = some (r, μ) := fun c r h1 h2 h3 => by
      unfold ww_lay
      rw [cIsSheet_eq, tT h, h1, Option.bind_some, if_neg h2, h3]
    rcases hs with ⟨s1, s2⟩ | ⟨s1, s2, s3, s4, s5⟩
    · refine ⟨-11, μ, μ, eC 1 _ ?_ (by omega) (by decide), ?_, H⟩
      · unfold she_faultOf
        rw [cellsOf_eq (by omega), Option.bind_some, s1, if_neg (by omega)]
      · unfold mod_lay
        rw [mIsSheet_eq, tT (by omega), ld_ok (by omega), Option.bind_some, s2, if_pos rfl]
    · by_cases hi : 0 ≤ x2 ∧ x2 < μ 60 x1.toNat
      · have hv : ∀ v : Int, she_set_32 x1 x2 v μ = some (mset μ 58 (40 * x1 + x2).toNat v) := fun v => by
          unfold she_set_32
          rw [wI_id (x := x1 * 40) (by omega), wI_id (by omega), show x1 * 40 + x2 = 40 * x1 + x2 by omega, put_in (by omega), Option.bind_some]
        have hw : ∀ v : Int, mod_lay_85 (wI (wI (40 * x1) + x2)) v (mset μ 58 (40 * x1 + x2).toNat v) = some (1, mset (mset μ 58 (40 * x1 + x2).toNat v) 87 (40 * x1 + x2).toNat v) := fun v => by
          unfold mod_lay_85
          rw [wI_id (x := 40 * x1) (by omega), wI_id (by omega), stx_ok (by omega), Option.bind_some]
        have hl : μ 85 x1.toNat = 0 ∨ μ 85 x1.toNat = 1 ∨ μ 85 x1.toNat = 2 := by omega
        have key : ∃ v, she_set x1 x2 x3 μ = some (mset μ 58 (40 * x1 + x2).toNat v) ∧ mod_lay x1 x2 x3 (mset μ 58 (40 * x1 + x2).toNat v) = some (1, mset (mset μ 58 (40 * x1 + x2).toNat v) 87 (40 * x1 + x2).toNat v) := by
          have base : ∀ v, mod_lay x1 x2 x3 (mset μ 58 (40 * x1 + x2).toNat v) = (if μ 85 x1.toNat = 0 then mod_lay_85 (wI (wI (40 * x1) + x2)) (i2b x3) (mset μ 58 (40 * x1 + x2).toNat v) else if μ 85 x1.toNat = 1 then mod_lay_85 (wI (wI (40 * x1) + x2)) (i2s x3) (mset μ 58 (40 * x1 + x2).toNat v) else mod_lay_85 (wI (wI (40 * x1) + x2)) x3 (mset μ 58 (40 * x1 + x2).toNat v)) := fun v => by
            unfold mod_lay
            rw [mIsSheet_eq, tT (by omega), ld_ok (by omega), Option.bind_some, mset_off (by omega), if_neg (by omega), ld_ok (by omega), Option.bind_some, mset_off (by omega), s2, wI_id (x := μ 60 x1.toNat - 1) (by omega), in_eq, tT (by omega)]
            rfl
          unfold she_set
          rw [at_in (by omega), Option.bind_some, s3]
          rcases hl with hl | hl | hl
          · refine ⟨i2b x3, by rw [hl, if_pos rfl, hv], ?_⟩
            rw [base, if_pos hl, hw]
          · refine ⟨i2s x3, by rw [hl, if_neg (by omega), if_pos rfl, hv], ?_⟩
            rw [base, if_neg (by omega), if_pos hl, hw]
          · refine ⟨x3, by rw [hl, if_neg (by omega), if_neg (by omega), hv], ?_⟩
            rw [base, if_neg (by omega), if_neg (by omega), hw]
        obtain ⟨v, k1, k2⟩ := key
        refine ⟨1, _, _, ?_, k2, layInv H (by omega) (by omega)⟩
        unfold ww_lay she_faultOf
        rw [cIsSheet_eq, tT h, cellsOf_eq (by omega), Option.bind_some, if_pos s1.1, if_neg (by omega), Option.bind_some, if_pos hi.2, Option.bind_some, if_pos rfl, k1]; rfl
      · refine ⟨-12, μ, μ, eC 2 _ ?_ (by omega) (by decide), ?_, H⟩
        · unfold she_faultOf
          rw [cellsOf_eq (by omega), Option.bind_some, if_pos s1.1, Option.bind_some]
          by_cases h0 : x2 < 0
          · rw [if_pos h0]
          · rw [if_neg h0, if_neg (by omega)]
        · unfold mod_lay
          rw [mIsSheet_eq, tT (by omega), ld_ok (by omega), Option.bind_some, if_neg (by omega), ld_ok (by omega), Option.bind_some, s2, wI_id (x := μ 60 x1.toNat - 1) (by omega), in_eq, tF (by omega)]
  · refine ⟨-1, μ, μ, ?_, ?_, H⟩
    · unfold ww_lay
      rw [cIsSheet_eq, tF h]
    · unfold mod_lay
      rw [mIsSheet_eq, tF (fun z => h z.1)]
