/-! ===== can, the reference's side ===== -/
def cX (ν : Mem) (X : Int → Bool) : Prop := ∀ t : Int, 0 ≤ t → t < 63 → ν 84 t.toNat = if X t = true then 1 else 0
def procX (R : Rd) (c : Int) (X0 : Int → Bool) (s act : Int) : Prop := ∀ s' a : Int, 0 ≤ s' → (s' < s ∧ 0 ≤ a ∧ a < 5 ∨ s' = s ∧ 0 ≤ a ∧ a < act) → X0 s' = true → thenP R c s' a ≠ -4 → X0 (thenP R c s' a) = true
def CI (R : Rd) (c s0 : Int) (X0 X : Int → Bool) (on s act : Int) : Prop := (∀ t : Int, 0 ≤ t → t < (63 : Nat) → X0 t = true → X t = true) ∧ SoundX R c s0 X ∧ (on = 0 ∧ (∀ t : Int, 0 ≤ t → t < 63 → X t = X0 t) ∧ procX R c X0 s act ∨ on = 1 ∧ cntX X0 63 + 1 ≤ cntX X 63)
def Mcan (a _j : Nat) : Prop := a = 84
theorem MC.can {μ μ' : Mem} {R : Rd} (h : Off Mcan μ μ') (H : MC μ 0 R) : MC μ' 0 R := H.off (h _ _ (by unfold Mcan; omega)) (fun a h1 h2 h3 => h.cell (fun j => by unfold Mcan; omega))
theorem mcan79 {R : Rd} {c s0 : Int} (hO : Ok R) (hc : 0 ≤ c ∧ c < R 0 1) (K : Int → Int → Int → Mem → Option (Int × Mem)) (X0 : Int → Bool) {s : Int} (hs : 0 ≤ s ∧ s < 3 * R 0 0 + 3) : ∀ (m f : Nat) (act on : Int) (X : Int → Bool) (ν : Mem), m < f → 0 ≤ act → act + m = 5 → MC ν 0 R → cX ν X → CI R c s0 X0 X on s act → ∃ on' X' ν', mod_can_79 K f c on s act ν = K c on' (s + 1) ν' ∧ Off Mcan ν ν' ∧ cX ν' X' ∧ CI R c s0 X0 X' on' (s + 1) 0 := by
  have hb := hO.r.1
  intro m
  induction m with
  | zero =>
    intro f act on X ν hf h0 he hM hX hI
    obtain ⟨f, rfl⟩ : ∃ g, f = g + 1 := ⟨f - 1, by omega⟩
    refine ⟨on, X, ν, ?_, Off.rf, hX, hI.1, hI.2.1, ?_⟩
    · rw [mod_can_79.eq_2, if_pos (by omega), mod_can_137.eq_1, wI_id (by omega)]
    · rcases hI.2.2 with ⟨q1, q2, q3⟩ | q
      · refine Or.inl ⟨q1, q2, fun s' a h1 h2 h3 h4 => q3 s' a h1 ?_ h3 h4⟩
        omega
      · exact Or.inr q
  | succ m ih =>
    intro f act on X ν hf h0 he hM hX hI
    obtain ⟨f, rfl⟩ : ∃ g, f = g + 1 := ⟨f - 1, by omega⟩
    rw [mod_can_79.eq_2, if_neg (by omega), ld_ok (by omega), Option.bind_some, hX s hs.1 (by omega)]
    by_cases z : X s = true
    · rw [if_pos z, if_neg (by omega), mthen hM hO hc hs ⟨h0, by omega⟩, Option.bind_some]
      have hin := thenP_in (R := R) (c := c) (s := s) (act := act) (by omega) hs.1 ⟨h0, by omega⟩
      have nx : ∀ (on1 : Int) (X1 : Int → Bool) (ν1 : Mem), Off Mcan ν ν1 → cX ν1 X1 → CI R c s0 X0 X1 on1 s (act + 1) → ∃ on' X' ν', mod_can_131 (mod_can_79 K f) c on1 s act ν1 = K c on' (s + 1) ν' ∧ Off Mcan ν ν' ∧ cX ν' X' ∧ CI R c s0 X0 X' on' (s + 1) 0 := fun on1 X1 ν1 q1 q2 q3 => by
        obtain ⟨on', X', ν', k1, k2, k3, k4⟩ := ih f (act + 1) on1 X1 ν1 (by omega) (by omega) (by omega) (hM.can q1) q2 q3
        exact ⟨on', X', ν', by rw [mod_can_131.eq_1, wI_id (by omega)]; exact k1, q1.tr k2, k3, k4⟩
      by_cases y : thenP R c s act = -4
      · rw [if_pos y]
        refine nx on X ν Off.rf hX ⟨hI.1, hI.2.1, ?_⟩
        rcases hI.2.2 with ⟨q1, q2, q3⟩ | q
        · refine Or.inl ⟨q1, q2, fun s' a h1 h2 h3 h4 => ?_⟩
          by_cases e : s' = s ∧ a = act
          · rw [e.1, e.2] at h4; exact absurd y h4
          · exact q3 s' a h1 (by omega) h3 h4
        · exact Or.inr q
      · have ht := hin.resolve_left y
        rw [if_neg y, ld_ok (by omega), Option.bind_some, hX _ ht.1.1 ht.1.2]
        by_cases x : X (thenP R c s act) = true
        · rw [if_pos x, if_neg (by omega)]
          refine nx on X ν Off.rf hX ⟨hI.1, hI.2.1, ?_⟩
          rcases hI.2.2 with ⟨q1, q2, q3⟩ | q
          · refine Or.inl ⟨q1, q2, fun s' a h1 h2 h3 h4 => ?_⟩
            by_cases e : s' = s ∧ a = act
            · rw [e.1, e.2, ← q2 _ ht.1.1 ht.1.2]; exact x
            · exact q3 s' a h1 (by omega) h3 h4
          · exact Or.inr q
        · rw [if_neg x, if_pos rfl, stx_ok (by omega), Option.bind_some, zN1]
          have x' : X (thenP R c s act) = false := by cases h : X (thenP R c s act) with
            | true => exact absurd h x
            | false => rfl
          refine nx 1 (fun t => if t = thenP R c s act then true else X t) _ (Off.rf.set (by unfold Mcan; omega)) (fun t t1 t2 => ?_) ⟨fun t t1 t2 q => ?_, fun t t1 t2 q => ?_, Or.inr ⟨rfl, ?_⟩⟩
          · rw [mset_ap]
            by_cases e : t = thenP R c s act
            · rw [if_pos ⟨rfl, by rw [e]⟩]
              show (1 : Int) = if (if t = thenP R c s act then true else X t) = true then 1 else 0
              rw [if_pos e, if_pos rfl]
            · rw [if_neg (fun q => e (by omega))]
              show ν 84 t.toNat = if (if t = thenP R c s act then true else X t) = true then 1 else 0
              rw [if_neg e]
              exact hX t t1 t2
          · show (if t = thenP R c s act then true else X t) = true
            split
            · rfl
            · exact hI.1 t t1 t2 q
          · have q' : (if t = thenP R c s act then true else X t) = true := q
            by_cases e : t = thenP R c s act
            · obtain ⟨k, hk⟩ := hI.2.1 s hs.1 (by omega) z
              exact ⟨k + 1, s, act, hk, ⟨h0, by omega⟩, e.symm, by omega⟩
            · rw [if_neg e] at q'
              exact hI.2.1 t t1 t2 q'
          · have h1 := cntX_mono (X := X0) (Y := X) 63 hI.1
            have h2 := cntX_less (X := X) (Y := fun t => if t = thenP R c s act then true else X t) (t := thenP R c s act) 63 (fun i i1 i2 q => by
              show (if i = thenP R c s act then true else X i) = true
              split
              · rfl
              · exact q) ht.1.1 (by omega) x' (by show (if thenP R c s act = thenP R c s act then true else X (thenP R c s act)) = true; rw [if_pos rfl])
            omega
    · rw [if_neg z, if_pos rfl]
      refine ⟨on, X, ν, ?_, Off.rf, hX, hI.1, hI.2.1, ?_⟩
      · rw [mod_can_137.eq_1, wI_id (by omega)]
      · rcases hI.2.2 with ⟨q1, q2, q3⟩ | q
        · refine Or.inl ⟨q1, q2, fun s' a h1 h2 h3 h4 => ?_⟩
          by_cases e : s' = s
          · rw [e, ← q2 s hs.1 (by omega)] at h3; exact absurd h3 z
          · exact q3 s' a h1 (by omega) h3 h4
        · exact Or.inr q
theorem mcan64 {R : Rd} {c s0 : Int} (hO : Ok R) (hc : 0 ≤ c ∧ c < R 0 1) (K : Int → Int → Mem → Option (Int × Mem)) (X0 : Int → Bool) : ∀ (m f : Nat) (s on : Int) (X : Int → Bool) (ν : Mem), m < f → 0 ≤ s → s + m = 3 * R 0 0 + 3 → MC ν 0 R → cX ν X → CI R c s0 X0 X on s 0 → ∃ on' X' ν', mod_can_64 K f c on s ν = K c on' ν' ∧ Off Mcan ν ν' ∧ cX ν' X' ∧ CI R c s0 X0 X' on' (3 * R 0 0 + 3) 0 := by
  have hb := hO.r.1
  have hB := BIG_gt
  intro m
  induction m with
  | zero =>
    intro f s on X ν hf h0 he hM hX hI
    obtain ⟨f, rfl⟩ : ∃ g, f = g + 1 := ⟨f - 1, by omega⟩
    refine ⟨on, X, ν, ?_, Off.rf, hX, ?_⟩
    · rw [mod_can_64.eq_2, hM.1.1, wI_id (x := 3 * R 0 0) (by omega), wI_id (by omega), if_pos (by omega)]
    · rw [← show s = 3 * R 0 0 + 3 by omega]; exact hI
  | succ m ih =>
    intro f s on X ν hf h0 he hM hX hI
    obtain ⟨f, rfl⟩ : ∃ g, f = g + 1 := ⟨f - 1, by omega⟩
    obtain ⟨on1, X1, ν1, k1, k2, k3, k4⟩ := mcan79 (s0 := s0) hO hc (mod_can_64 K f) X0 (s := s) ⟨h0, by omega⟩ 5 BIG 0 on X ν (by omega) (by omega) (by omega) hM hX hI
    obtain ⟨on', X', ν', r1, r2, r3, r4⟩ := ih f (s + 1) on1 X1 ν1 (by omega) (by omega) (by omega) (hM.can k2) k3 k4
    refine ⟨on', X', ν', ?_, k2.tr r2, r3, r4⟩
    rw [mod_can_64.eq_2, hM.1.1, wI_id (x := 3 * R 0 0) (by omega), wI_id (x := 3 * R 0 0 + 3) (by omega), if_neg (by omega), k1, r1]
theorem mcan56 {R : Rd} {c s0 : Int} (hO : Ok R) (hc : 0 ≤ c ∧ c < R 0 1) : ∀ (m f : Nat) (X : Int → Bool) (ν : Mem), m + 1 < f → 63 < m + cntX X 63 → MC ν 0 R → cX ν X → SoundX R c s0 X → ∃ X' ν', mod_can_56 f c 1 ν = mod_can_151 BIG 0 0 ν' ∧ Off Mcan ν ν' ∧ cX ν' X' ∧ SoundX R c s0 X' ∧ ClosedX R c X' ∧ (∀ t : Int, 0 ≤ t → t < (63 : Nat) → X t = true → X' t = true) := by
  have hb := hO.r.1
  have hB := BIG_gt
  intro m
  induction m with
  | zero => intro f X ν _ hm; have := cntX_le X 63; omega
  | succ m ih =>
    intro f X ν hf hm hM hX hS
    obtain ⟨f, rfl⟩ : ∃ g, f = g + 1 := ⟨f - 1, by omega⟩
    obtain ⟨n, hn⟩ : ∃ n : Nat, (n : Int) = 3 * R 0 0 + 3 := ⟨(3 * R 0 0 + 3).toNat, by omega⟩
    obtain ⟨on1, X1, ν1, k1, k2, k3, k4⟩ := mcan64 (s0 := s0) hO hc (mod_can_56 f) X n BIG 0 0 X ν (by omega) (by omega) (by omega) hM hX ⟨fun t _ _ q => q, hS, Or.inl ⟨rfl, fun t _ _ => rfl, fun s' a h1 h2 => by omega⟩⟩
    rw [mod_can_56.eq_2, if_neg (by omega), k1]
    rcases k4.2.2 with ⟨q1, q2, q3⟩ | ⟨q1, q2⟩
    · obtain ⟨f, rfl⟩ : ∃ g, f = g + 1 := ⟨f - 1, by omega⟩
      refine ⟨X1, ν1, ?_, k2, k3, k4.2.1, fun s act s1 s2 h1 a1 a2 h2 => ?_, k4.1⟩
      · rw [mod_can_56.eq_2, if_pos q1]
      · have hin := (thenP_in (R := R) (c := c) (s := s) (act := act) (by omega) s1 ⟨a1, a2⟩).resolve_left h2
        have hlt : s < 3 * R 0 0 + 3 := by
          refine Decidable.byContradiction (fun n => h2 ?_)
          unfold thenP
          rw [if_pos (by omega)]
        rw [q2 _ hin.1.1 hin.1.2]
        exact q3 s act s1 (Or.inl ⟨hlt, a1, a2⟩) (by rw [← q2 s s1 s2]; exact h1) h2
    · rw [q1]
      obtain ⟨X', ν', r1, r2, r3, r4, r5, r6⟩ := ih f X1 ν1 (by omega) (by omega) (hM.can k2) k3 k4.2.1
      exact ⟨X', ν', r1, k2.tr r2, r3, r4, r5, fun t t1 t2 q => r6 t t1 t2 (k4.1 t t1 t2 q)⟩
theorem iShl_0 {s : Int} (h : 0 ≤ s ∧ s < 32) : iShl 0 s = 0 := by
  obtain ⟨n, rfl⟩ : ∃ n : Nat, s = (n : Int) := ⟨s.toNat, by omega⟩
  have := iShl_nat (n := 0) (s := n) (by omega) (by omega)
  simpa using this
theorem mcan151 {X : Int → Bool} : ∀ (m f : Nat) (s x : Int) (ν : Mem), m < f → 0 ≤ s → s + m = 63 → cX ν X → C32 x → mod_can_151 f x s ν = some (yardsX X m s x, ν) := by
  intro m
  induction m with
  | zero =>
    intro f s x ν hf h0 he hX hC
    obtain ⟨f, rfl⟩ : ∃ g, f = g + 1 := ⟨f - 1, by omega⟩
    rw [mod_can_151.eq_2, if_pos (by omega)]; rfl
  | succ m ih =>
    intro f s x ν hf h0 he hX hC
    obtain ⟨f, rfl⟩ : ∃ g, f = g + 1 := ⟨f - 1, by omega⟩
    rw [mod_can_151.eq_2, if_neg (by omega), ld_ok (by omega), Option.bind_some, flag_eq, Option.bind_some, bnd.eq_1, hX s h0 (by omega), iDiv_eq (by omega) (by omega), wI_id (by omega), yardsX]
    by_cases z : X s = true
    · rw [if_pos z, if_pos z, if_neg (by omega)]
      exact ih f (s + 1) _ ν (by omega) (by omega) (by omega) hX (iOr_C _ _)
    · rw [if_neg z, if_neg z, if_pos rfl, iShl_0 (by omega), iOr_0 hC]
      exact ih f (s + 1) _ ν (by omega) (by omega) (by omega) hX hC
theorem mcan12 {R : Rd} {c : Int} (hO : Ok R) (hc : 0 ≤ c ∧ c < R 0 1) : ∀ (m f : Nat) (s : Int) (ν : Mem), m < f → 0 ≤ s → s + m = 63 → MC ν 0 R → (∀ t : Int, 0 ≤ t → t < s → ν 84 t.toNat = if t = 3 * pt R c 4 + pt R c 1 then 1 else 0) → ∃ ν', mod_can_12 f c s ν = mod_can_56 BIG c 1 ν' ∧ Off Mcan ν ν' ∧ (∀ t : Int, 0 ≤ t → t < 63 → ν' 84 t.toNat = if t = 3 * pt R c 4 + pt R c 1 then 1 else 0) := by
  have hb := hO.r.1
  have hpc := hO.2.2.2.2.2.2.1 c hc.1 hc.2
  intro m
  induction m with
  | zero =>
    intro f s ν hf h0 he hM hX
    obtain ⟨f, rfl⟩ : ∃ g, f = g + 1 := ⟨f - 1, by omega⟩
    exact ⟨ν, by rw [mod_can_12.eq_2, if_pos (by omega)], Off.rf, fun t t1 t2 => hX t t1 (by omega)⟩
  | succ m ih =>
    intro f s ν hf h0 he hM hX
    obtain ⟨f, rfl⟩ : ∃ g, f = g + 1 := ⟨f - 1, by omega⟩
    have nx : ∀ v : Int, v = (if s = 3 * pt R c 4 + pt R c 1 then 1 else 0) → ∃ ν', mod_can_47 (mod_can_12 f) c s s v ν = mod_can_56 BIG c 1 ν' ∧ Off Mcan ν ν' ∧ (∀ t : Int, 0 ≤ t → t < 63 → ν' 84 t.toNat = if t = 3 * pt R c 4 + pt R c 1 then 1 else 0) := fun v hv => by
      have o : Off Mcan ν (mset ν 84 s.toNat v) := Off.rf.set (by unfold Mcan; omega)
      obtain ⟨ν', k1, k2, k3⟩ := ih f (s + 1) (mset ν 84 s.toNat v) (by omega) (by omega) (by omega) (hM.can o) (fun t t1 t2 => by
        rw [mset_ap]
        by_cases e : t = s
        · rw [if_pos ⟨rfl, by rw [e]⟩, e, hv]
        · rw [if_neg (by omega)]; exact hX t t1 (by omega))
      have hz : zN v = v := by
        rw [hv]
        split
        · exact zN_1
        · exact zN_0
      exact ⟨ν', by rw [mod_can_47.eq_1, hz, stx_ok (by omega), Option.bind_some, wI_id (by omega)]; exact k1, o.tr k2, k3⟩
    rw [mod_can_12.eq_2, if_neg (by omega), mpart hM (by omega) (by omega), Option.bind_some, mpart hM (by omega) (by omega), Option.bind_some, wI_id (x := 3 * pt R c 4) (by omega), wI_id (by omega)]
    by_cases e : s = 3 * pt R c 4 + pt R c 1
    · rw [if_pos e]
      exact nx 1 (by rw [if_pos e])
    · rw [if_neg e]
      exact nx 0 (by rw [if_neg e])
theorem E_can_ok : E_can Inv := by
  intro μ H c g1
  obtain ⟨c1, c2, c3, c4, c5, c6⟩ := H.c
  obtain ⟨hR, hM, hO, hT⟩ := H.R
  have hB := BIG_gt
  by_cases k : 0 ≤ c ∧ c < μ 62 0
  · have hc : 0 ≤ c ∧ c < mR μ 0 0 1 := k
    have hpc := hO.2.2.2.2.2.2.1 c hc.1 hc.2
    have hb := hO.r.1
    obtain ⟨X, x1, x2, x3, x4⟩ := ccan_eq hR hO hc
    have hM1 : MC (mset μ 51 2 c) 0 (mR μ 0) := hM.cls (by omega)
    obtain ⟨ν1, a1, a2, a3⟩ := mcan12 hO hc 63 BIG 0 (mset μ 51 2 c) (by omega) (by omega) (by omega) hM1 (fun t t1 t2 => by omega)
    obtain ⟨X', ν2, b1, b2, b3, b4, b5, b6⟩ := mcan56 (s0 := 3 * pt (mR μ 0) c 4 + pt (mR μ 0) c 1) hO hc 64 BIG (fun t => decide (t = 3 * pt (mR μ 0) c 4 + pt (mR μ 0) c 1)) ν1 (by omega) (by omega) (hM1.can a2) (fun t t1 t2 => by
      rw [a3 t t1 t2]
      by_cases e : t = 3 * pt (mR μ 0) c 4 + pt (mR μ 0) c 1
      · rw [if_pos e, if_pos (decide_eq_true e)]
      · rw [if_neg e, if_neg (fun q => e (of_decide_eq_true q))]) (fun t t1 t2 q => ⟨0, by have h : t = 3 * pt (mR μ 0) c 4 + pt (mR μ 0) c 1 := of_decide_eq_true q; exact h⟩)
    have hi : X' (3 * pt (mR μ 0) c 4 + pt (mR μ 0) c 1) = true := b6 _ (by omega) (by omega) (decide_eq_true rfl)
    have e : yardsX X' 63 0 0 = yardsX X 63 0 0 := yardsX_eq 63 0 0 (by omega) (by omega) (fun t t1 t2 => reach_eq (by omega) (by omega) b4 x2 b5 x4 hi x3 t ⟨t1, t2⟩)
    refine ⟨yardsX X 63 0 0, mset μ 51 2 c, ν2, ?_, ?_, ?_⟩
    · rw [ww_can.eq_1, hasCart_eq, c2, tT k, x1, Option.bind_some]
    · have e62 : mset μ 51 2 c 62 = μ 62 := mset_off (by omega)
      rw [mod_can.eq_1, mIsCart_eq (by rw [e62]; exact c5), e62, tT k, a1, b1, mcan151 63 BIG 0 0 ν2 (by omega) (by omega) (by omega) b3 ⟨by omega, by omega⟩, e]
    · exact H.scr (((Off.rf.set (by unfold Scr; omega) : Off Scr μ (mset μ 51 2 c)).tr (a2.mono (fun a j z => by unfold Mcan at z; unfold Scr; omega))).tr (b2.mono (fun a j z => by unfold Mcan at z; unfold Scr; omega)))
  · refine ⟨-1, μ, μ, ?_, ?_, H⟩
    · rw [ww_can.eq_1, hasCart_eq, c2, tF k]
    · rw [mod_can.eq_1, mIsCart_eq c5, tF k]
