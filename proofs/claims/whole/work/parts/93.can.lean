/-! ===== can: what can be reached ===== -/
def cntX (X : Int → Bool) : Nat → Nat
  | 0 => 0
  | k + 1 => cntX X k + if X (k : Int) then 1 else 0
theorem cntX_le (X : Int → Bool) : ∀ n : Nat, cntX X n ≤ n := by
  intro n
  induction n with
  | zero => exact Nat.le_refl _
  | succ n ih => rw [cntX]; split <;> omega
theorem cntX_mono {X Y : Int → Bool} : ∀ n : Nat, (∀ i : Int, 0 ≤ i → i < n → X i = true → Y i = true) → cntX X n ≤ cntX Y n := by
  intro n
  induction n with
  | zero => intro _; exact Nat.le_refl _
  | succ n ih =>
    intro h
    have := ih (fun i i1 i2 => h i i1 (by omega))
    have hn := h n (by omega) (by omega)
    rw [cntX, cntX]
    by_cases z : X (n : Int) = true
    · rw [if_pos z, if_pos (hn z)]; omega
    · rw [if_neg z]; omega
theorem cntX_less {X Y : Int → Bool} {t : Int} : ∀ n : Nat, (∀ i : Int, 0 ≤ i → i < n → X i = true → Y i = true) → 0 ≤ t → t < n → X t = false → Y t = true → cntX X n + 1 ≤ cntX Y n := by
  intro n
  induction n with
  | zero => intro _ h1 h2; omega
  | succ n ih =>
    intro h h1 h2 h3 h4
    rw [cntX, cntX]
    by_cases z : t = (n : Int)
    · have := cntX_mono n (fun i i1 i2 => h i i1 (by omega))
      subst z
      rw [if_neg (by rw [h3]; decide), if_pos h4]; omega
    · have := ih (fun i i1 i2 => h i i1 (by omega)) h1 (by omega) h3 h4
      have hn := h n (by omega) (by omega)
      by_cases y : X (n : Int) = true
      · rw [if_pos y, if_pos (hn y)]; omega
      · rw [if_neg y]; omega
theorem cntX_pos {X : Int → Bool} {t : Int} : ∀ n : Nat, 0 ≤ t → t < n → X t = true → 1 ≤ cntX X n := by
  intro n h1 h2 h3
  have := cntX_less (X := fun _ => false) (Y := X) n (fun i _ _ h => by cases h) h1 h2 rfl h3
  omega
def Rk (R : Rd) (c s0 : Int) : Nat → Int → Prop
  | 0, s => s = s0
  | k + 1, s => ∃ s' act : Int, Rk R c s0 k s' ∧ (0 ≤ act ∧ act < 5) ∧ thenP R c s' act = s ∧ s ≠ -4
def SoundX (R : Rd) (c s0 : Int) (X : Int → Bool) : Prop := ∀ s : Int, 0 ≤ s → s < 63 → X s = true → ∃ k, Rk R c s0 k s
def ClosedX (R : Rd) (c : Int) (X : Int → Bool) : Prop := ∀ s act : Int, 0 ≤ s → s < 63 → X s = true → 0 ≤ act → act < 5 → thenP R c s act ≠ -4 → X (thenP R c s act) = true
theorem Rk_in {R : Rd} {c s0 : Int} (hb : R 0 0 ≤ 20) (h0 : 0 ≤ s0 ∧ s0 < 63) : ∀ (k : Nat) (s : Int), Rk R c s0 k s → 0 ≤ s ∧ s < 63 := by
  intro k
  induction k with
  | zero => intro s h; rw [show s = s0 from h]; exact h0
  | succ k ih =>
    rintro s ⟨s', act, h1, h2, h3, h4⟩
    have := thenP_in (R := R) (c := c) (s := s') (act := act) hb (ih s' h1).1 h2
    rw [h3] at this
    rcases this with q | q
    · exact absurd q h4
    · exact q.1
theorem closed_all {R : Rd} {c s0 : Int} {X : Int → Bool} (hb : R 0 0 ≤ 20) (h0 : 0 ≤ s0 ∧ s0 < 63) (hX : X s0 = true) (hC : ClosedX R c X) : ∀ (k : Nat) (s : Int), Rk R c s0 k s → X s = true := by
  intro k
  induction k with
  | zero => intro s h; rw [show s = s0 from h]; exact hX
  | succ k ih =>
    rintro s ⟨s', act, h1, h2, h3, h4⟩
    have hs' := Rk_in hb h0 k s' h1
    rw [← h3]
    exact hC s' act hs'.1 hs'.2 (ih s' h1) h2.1 h2.2 (by rw [h3]; exact h4)
theorem reach_eq {R : Rd} {c s0 : Int} {X Y : Int → Bool} (hb : R 0 0 ≤ 20) (h0 : 0 ≤ s0 ∧ s0 < 63) (sX : SoundX R c s0 X) (sY : SoundX R c s0 Y) (cX : ClosedX R c X) (cY : ClosedX R c Y) (iX : X s0 = true) (iY : Y s0 = true) (s : Int) (hs : 0 ≤ s ∧ s < 63) : X s = Y s := by
  cases hx : X s with
  | true =>
    obtain ⟨k, hk⟩ := sX s hs.1 hs.2 hx
    exact (closed_all hb h0 iY cY k s hk).symm
  | false =>
    cases hy : Y s with
    | false => rfl
    | true =>
      obtain ⟨k, hk⟩ := sY s hs.1 hs.2 hy
      rw [closed_all hb h0 iX cX k s hk] at hx
      cases hx
/-! ===== the class's bits ===== -/
def bX (b : Nat) : Int → Bool := fun s => b.testBit s.toNat
theorem cbehind5 {μ : Mem} {R : Rd} {c s : Int} (hR : RC μ 1 R) (hO : Ok R) (h51 : μ 51 2 = c) (hc : 0 ≤ c ∧ c < R 0 1) (hs : 0 ≤ s ∧ s < 63) : ∀ (m f : Nat) (act : Int) (b : Nat), m < f → 0 ≤ act → act + m = 5 → b < 9223372036854775808 → ∃ b' : Nat, way_standsBehind_5 μ f s (b : Int) act = some (b' : Int) ∧ b' < 9223372036854775808 ∧ ∀ t : Nat, b'.testBit t = true ↔ b.testBit t = true ∨ ∃ a : Int, act ≤ a ∧ a < 5 ∧ thenP R c s a = (t : Int) := by
  have hb := hO.r.1
  intro m
  induction m with
  | zero =>
    intro f act b hf h0 he hlt
    obtain ⟨f, rfl⟩ : ∃ g, f = g + 1 := ⟨f - 1, by omega⟩
    refine ⟨b, by rw [way_standsBehind_5.eq_2, if_pos (by omega)], hlt, fun t => ⟨fun h => Or.inl h, fun h => ?_⟩⟩
    rcases h with h | ⟨a, a1, a2, _⟩
    · exact h
    · omega
  | succ m ih =>
    intro f act b hf h0 he hlt
    obtain ⟨f, rfl⟩ : ∃ g, f = g + 1 := ⟨f - 1, by omega⟩
    have hin := thenP_in (R := R) (c := c) (s := s) (act := act) (by omega) hs.1 ⟨h0, by omega⟩
    rw [way_standsBehind_5.eq_2, if_neg (by omega), cstand hR hO h51 hc hs ⟨h0, by omega⟩, Option.bind_some]
    simp only [way_standsBehind_32.eq_1]
    rw [wI_id (x := act + 1) (by omega)]
    by_cases z : thenP R c s act < 0
    · rw [if_pos z]
      obtain ⟨b', k1, k2, k3⟩ := ih f (act + 1) b (by omega) (by omega) (by omega) hlt
      refine ⟨b', k1, k2, fun t => (k3 t).trans ⟨fun h => ?_, fun h => ?_⟩⟩
      · rcases h with h | ⟨a, a1, a2, a3⟩
        · exact Or.inl h
        · exact Or.inr ⟨a, by omega, a2, a3⟩
      · rcases h with h | ⟨a, a1, a2, a3⟩
        · exact Or.inl h
        · by_cases y : a = act
          · rw [y] at a3; omega
          · exact Or.inr ⟨a, by omega, a2, a3⟩
    · obtain ⟨u, hu⟩ : ∃ u : Nat, thenP R c s act = (u : Int) := ⟨(thenP R c s act).toNat, by omega⟩
      obtain ⟨g, g1, g2, g3⟩ := lSet (b := b) (i := u) hlt (by omega)
      have hg : g < 9223372036854775808 := by
        rw [g2]
        exact Nat.or_lt_two_pow (n := 63) hlt (Nat.pow_lt_pow_right (by omega) (by omega))
      rw [if_neg z, bnd.eq_1, hu, g1]
      obtain ⟨b', k1, k2, k3⟩ := ih f (act + 1) g (by omega) (by omega) (by omega) hg
      refine ⟨b', k1, k2, fun t => (k3 t).trans ⟨fun h => ?_, fun h => ?_⟩⟩
      · rcases h with h | ⟨a, a1, a2, a3⟩
        · rw [g3, Bool.or_eq_true] at h
          rcases h with h | h
          · exact Or.inl h
          · exact Or.inr ⟨act, by omega, by omega, by rw [hu, of_decide_eq_true h]⟩
        · exact Or.inr ⟨a, by omega, a2, a3⟩
      · rcases h with h | ⟨a, a1, a2, a3⟩
        · left; rw [g3, h]; rfl
        · by_cases y : a = act
          · left
            rw [y, hu] at a3
            rw [g3, decide_eq_true (by omega), Bool.or_true]
          · exact Or.inr ⟨a, by omega, a2, a3⟩
theorem cbehind {μ : Mem} {R : Rd} {c s : Int} (hR : RC μ 1 R) (hO : Ok R) (h51 : μ 51 2 = c) (hc : 0 ≤ c ∧ c < R 0 1) (hs : 0 ≤ s ∧ s < 63) : ∃ b' : Nat, way_standsBehind μ s = some (b' : Int) ∧ b' < 9223372036854775808 ∧ ∀ t : Nat, b'.testBit t = true ↔ ∃ a : Int, 0 ≤ a ∧ a < 5 ∧ thenP R c s a = (t : Int) := by
  obtain ⟨b', k1, k2, k3⟩ := cbehind5 hR hO h51 hc hs 5 BIG 0 0 (by have := BIG_gt; omega) (by omega) (by omega) (by omega)
  have e0 : ((0 : Nat) : Int) = 0 := rfl
  rw [e0] at k1
  refine ⟨b', by rw [way_standsBehind.eq_1]; exact k1, k2, fun t => (k3 t).trans ⟨fun h => ?_, fun h => Or.inr h⟩⟩
  rcases h with h | h
  · rw [Nat.zero_testBit] at h; cases h
  · exact h
theorem lTest {b s : Nat} (hb : b < 9223372036854775808) (hs : s < 63) : (lCmp (lAnd (lShr (b : Int) (s : Int)) 1) 0 = 0) ↔ (b.testBit s = false) := by
  rw [lBit hb (by omega)]
  simp only [lCmp0]
  cases b.testBit s <;> simp
/-- one sweep of the class over all stands -/
theorem csweep {μ : Mem} {R : Rd} {c s0 : Int} (hR : RC μ 1 R) (hO : Ok R) (h51 : μ 51 2 = c) (hc : 0 ≤ c ∧ c < R 0 1) (K : Int → Int → Int → Mem → Option (Int × Mem)) (v6 : Int) (b0 : Nat) : ∀ (m f : Nat) (s : Nat) (b : Nat), m < f → s + m = 63 → b < 9223372036854775808 → SoundX R c s0 (bX b) → (∀ t, b0.testBit t = true → b.testBit t = true) → (∀ (s' t : Nat) (a : Int), s' < s → b0.testBit s' = true → 0 ≤ a → a < 5 → thenP R c s' a = (t : Int) → b.testBit t = true) → ∃ b' : Nat, way_reached_38 K f (b : Int) (b0 : Int) v6 (s : Int) μ = K (b' : Int) (b0 : Int) (wI (v6 + 1)) μ ∧ b' < 9223372036854775808 ∧ SoundX R c s0 (bX b') ∧ (∀ t, b0.testBit t = true → b'.testBit t = true) ∧ (∀ (s' t : Nat) (a : Int), s' < 63 → b0.testBit s' = true → 0 ≤ a → a < 5 → thenP R c s' a = (t : Int) → b'.testBit t = true) := by
  have hb := hO.r.1
  intro m
  induction m with
  | zero =>
    intro f s b hf he hlt h1 h2 h3
    obtain ⟨f, rfl⟩ : ∃ g, f = g + 1 := ⟨f - 1, by omega⟩
    refine ⟨b, by rw [way_reached_38.eq_2, if_pos (by omega)], hlt, h1, h2, fun s' t a q => h3 s' t a (by omega)⟩
  | succ m ih =>
    intro f s b hf he hlt h1 h2 h3
    obtain ⟨f, rfl⟩ : ∃ g, f = g + 1 := ⟨f - 1, by omega⟩
    have hT := lTest (b := b) (s := s) hlt (by omega)
    rw [way_reached_38.eq_2, if_neg (by omega)]
    simp only [way_reached_65.eq_1]
    rw [wI_id (x := (s : Int) + 1) (by omega), show (s : Int) + 1 = ((s + 1 : Nat) : Int) by omega]
    by_cases z : b.testBit s = false
    · rw [if_pos (hT.mpr z)]
      refine ih f (s + 1) b (by omega) (by omega) hlt h1 h2 (fun s' t a q1 q2 q3 q4 q5 => ?_)
      by_cases y : s' = s
      · rw [y] at q2
        rw [h2 s q2] at z; cases z
      · exact h3 s' t a (by omega) q2 q3 q4 q5
    · have z' : b.testBit s = true := by cases h : b.testBit s with
        | true => rfl
        | false => exact absurd h z
      obtain ⟨d, d1, d2, d3⟩ := cbehind (s := (s : Int)) hR hO h51 hc (by omega)
      rw [if_neg (fun q => z (hT.mp q)), d1, Option.bind_some, bnd.eq_1, lOr_nat hlt d2]
      refine ih f (s + 1) (b ||| d) (by omega) (by omega) (Nat.or_lt_two_pow (n := 63) hlt d2) (fun t t1 t2 q => ?_) (fun t q => by rw [Nat.testBit_or, h2 t q]; rfl) (fun s' t a q1 q2 q3 q4 q5 => ?_)
      · unfold bX at q
        rw [Nat.testBit_or, Bool.or_eq_true] at q
        rcases q with q | q
        · exact h1 t t1 t2 q
        · obtain ⟨a, a1, a2, a3⟩ := (d3 t.toNat).mp q
          obtain ⟨k, hk⟩ := h1 (s : Int) (by omega) (by omega) (by unfold bX; rw [Int.toNat_natCast]; exact z')
          exact ⟨k + 1, (s : Int), a, hk, ⟨a1, a2⟩, by rw [a3]; omega, by omega⟩
      · rw [Nat.testBit_or, Bool.or_eq_true]
        by_cases y : s' = s
        · right
          rw [y] at q5
          exact (d3 t).mpr ⟨a, q3, q4, q5⟩
        · left; exact h3 s' t a (by omega) q2 q3 q4 q5
theorem creach18 {μ : Mem} {R : Rd} {c s0 : Int} (hR : RC μ 1 R) (hO : Ok R) (h51 : μ 51 2 = c) (hc : 0 ≤ c ∧ c < R 0 1) : ∀ (m f : Nat) (r : Int) (b b0 : Nat), m < f → 0 ≤ r → 63 ≤ r + m → b < 9223372036854775808 → b0 < 9223372036854775808 → SoundX R c s0 (bX b) → bX b s0 = true → 0 ≤ s0 → s0 < 63 → (∀ t, b0.testBit t = true → b.testBit t = true) → (∀ (s' t : Nat) (a : Int), s' < 63 → b0.testBit s' = true → 0 ≤ a → a < 5 → thenP R c s' a = (t : Int) → b.testBit t = true) → (b ≠ b0 → r + 1 ≤ cntX (bX b) 63) → (∀ t, 63 ≤ t → b.testBit t = false) → ∃ b' : Nat, way_reached_18 f (b : Int) (b0 : Int) r μ = way_reached_77 (b' : Int) μ ∧ b' < 9223372036854775808 ∧ SoundX R c s0 (bX b') ∧ bX b' s0 = true ∧ ClosedX R c (bX b') := by
  have hb := hO.r.1
  intro m
  induction m with
  | zero =>
    intro f r b b0 hf hr hm hlt hlt0 h1 h2 hs1 hs2 h3 h4 h5 h6
    obtain ⟨f, rfl⟩ : ∃ g, f = g + 1 := ⟨f - 1, by omega⟩
    have hcnt := cntX_le (bX b) 63
    have e : b = b0 := Decidable.byContradiction (fun q => by have := h5 q; omega)
    refine ⟨b, ?_, hlt, h1, h2, fun s act q1 q2 q3 q4 q5 q6 => ?_⟩
    · rw [way_reached_18.eq_2, if_pos (by rw [e]; unfold lCmp; rw [if_neg (by omega), if_pos rfl])]
    · have hin := thenP_in (R := R) (c := c) (s := s) (act := act) (by omega) q1 ⟨q4, q5⟩
      have := h4 s.toNat (thenP R c s act).toNat act (by omega) (by rw [← e]; exact q3) q4 q5 (by rw [show ((s.toNat : Nat) : Int) = s by omega]; omega)
      exact this
  | succ m ih =>
    intro f r b b0 hf hr hm hlt hlt0 h1 h2 hs1 hs2 h3 h4 h5 h6
    obtain ⟨f, rfl⟩ : ∃ g, f = g + 1 := ⟨f - 1, by omega⟩
    have hcnt := cntX_le (bX b) 63
    rw [way_reached_18.eq_2]
    by_cases e : b = b0
    · refine ⟨b, ?_, hlt, h1, h2, fun s act q1 q2 q3 q4 q5 q6 => ?_⟩
      · rw [if_pos (by rw [e]; unfold lCmp; rw [if_neg (by omega), if_pos rfl])]
      · have hin := thenP_in (R := R) (c := c) (s := s) (act := act) (by omega) q1 ⟨q4, q5⟩
        have := h4 s.toNat (thenP R c s act).toNat act (by omega) (by rw [← e]; exact q3) q4 q5 (by rw [show ((s.toNat : Nat) : Int) = s by omega]; omega)
        exact this
    · have h5' := h5 e
      have hne : ¬ lCmp (b : Int) (b0 : Int) = 0 := by unfold lCmp; split; · omega
                                                       · rw [if_neg (by omega)]; omega
      rw [if_neg hne, if_neg (by omega)]
      have hB := BIG_gt
      obtain ⟨b', k1, k2, k3, k4, k5⟩ := csweep (s0 := s0) hR hO h51 hc (way_reached_18 f) r b 63 BIG 0 b (by omega) (by omega) hlt h1 (fun t q => q) (fun s' t a q => by omega)
      have e0 : ((0 : Nat) : Int) = 0 := rfl
      rw [e0] at k1
      rw [k1, wI_id (by omega)]
      have hmono : ∀ i : Int, 0 ≤ i → i < (63 : Nat) → bX b i = true → bX b' i = true := fun i i1 i2 q => k4 _ q
      have hhi : ∀ t, 63 ≤ t → b'.testBit t = false := fun t ht => Nat.testBit_lt_two_pow (Nat.lt_of_lt_of_le k2 (Nat.pow_le_pow_right (n := 2) (by omega) ht : 2 ^ 63 ≤ 2 ^ t))
      refine ih f (r + 1) b' b (by omega) (by omega) (by omega) k2 hlt k3 (k4 _ h2) hs1 hs2 k4 k5 (fun q => ?_) hhi
      -- a new bit: one more
      have hnew : ∃ t : Nat, t < 63 ∧ b.testBit t = false ∧ b'.testBit t = true := by
        refine Classical.byContradiction (fun n => q ?_)
        apply Nat.eq_of_testBit_eq
        intro t
        by_cases ht : t < 63
        · cases hx : b.testBit t with
          | true => exact k4 t hx
          | false =>
            cases hy : b'.testBit t with
            | false => rfl
            | true => exact absurd ⟨t, ht, hx, hy⟩ n
        · rw [h6 t (by omega), hhi t (by omega)]
      obtain ⟨t, t1, t2, t3⟩ := hnew
      have := cntX_less (X := bX b) (Y := bX b') (t := (t : Int)) 63 hmono (by omega) (by omega) (by unfold bX; rw [Int.toNat_natCast]; exact t2) (by unfold bX; rw [Int.toNat_natCast]; exact t3)
      omega
/-- the yards of a set of stands -/
def yardsX (X : Int → Bool) : Nat → Int → Int → Int
  | 0, _, x => x
  | k + 1, s, x => yardsX X k (s + 1) (if X s = true then iOr x (iShl 1 (s / 3)) else x)
theorem yardsX_eq {X Y : Int → Bool} : ∀ (k : Nat) (s x : Int), 0 ≤ s → s + k ≤ 63 → (∀ t : Int, 0 ≤ t → t < 63 → X t = Y t) → yardsX X k s x = yardsX Y k s x := by
  intro k
  induction k with
  | zero => intro s x _ _ _; rfl
  | succ k ih => intro s x h1 h2 h; rw [yardsX, yardsX, h s h1 (by omega), ih _ _ (by omega) (by omega) h]
theorem creach83 {b : Nat} (hlt : b < 9223372036854775808) : ∀ (m f : Nat) (s : Nat) (x : Int) (μ : Mem), m < f → s + m = 63 → way_reached_83 f (b : Int) x (s : Int) μ = some (yardsX (bX b) m (s : Int) x, μ) := by
  intro m
  induction m with
  | zero =>
    intro f s x μ hf he
    obtain ⟨f, rfl⟩ : ∃ g, f = g + 1 := ⟨f - 1, by omega⟩
    rw [way_reached_83.eq_2, if_pos (by omega)]; rfl
  | succ m ih =>
    intro f s x μ hf he
    obtain ⟨f, rfl⟩ : ∃ g, f = g + 1 := ⟨f - 1, by omega⟩
    have hT := lTest (b := b) (s := s) hlt (by omega)
    rw [way_reached_83.eq_2, if_neg (by omega)]
    simp only [way_reached_112.eq_1]
    rw [wI_id (x := (s : Int) + 1) (by omega), show (s : Int) + 1 = ((s + 1 : Nat) : Int) by omega, bnd.eq_1, iDiv_eq (by omega) (by omega), yardsX]
    have e : bX b (s : Int) = b.testBit s := by unfold bX; rw [Int.toNat_natCast]
    rw [e]
    by_cases z : b.testBit s = false
    · rw [if_pos (hT.mpr z), if_neg (by rw [z]; decide), ih f (s + 1) x μ (by omega) (by omega), show ((s + 1 : Nat) : Int) = (s : Int) + 1 by omega]
    · have z' : b.testBit s = true := by cases h : b.testBit s with
        | true => rfl
        | false => exact absurd h z
      rw [if_neg (fun q => z (hT.mp q)), if_pos z', ih f (s + 1) _ μ (by omega) (by omega), show ((s + 1 : Nat) : Int) = (s : Int) + 1 by omega]
theorem ccan_eq {μ : Mem} {R : Rd} {c : Int} (hR : RC μ 1 R) (hO : Ok R) (hc : 0 ≤ c ∧ c < R 0 1) : ∃ X : Int → Bool, way_reached c μ = some (yardsX X 63 0 0, mset μ 51 2 c) ∧ SoundX R c (3 * pt R c 4 + pt R c 1) X ∧ X (3 * pt R c 4 + pt R c 1) = true ∧ ClosedX R c X := by
  have hb := hO.r.1
  have hB := BIG_gt
  have hpc := hO.2.2.2.2.2.2.1 c hc.1 hc.2
  have hR1 : RC (mset μ 51 2 c) 1 R := hR.mod (by omega)
  obtain ⟨u, hu⟩ : ∃ u : Nat, (u : Int) = 3 * pt R c 4 + pt R c 1 := ⟨(3 * pt R c 4 + pt R c 1).toNat, by omega⟩
  have hbeg : way_begin (mset μ 51 2 c) = some (u : Int) := by
    rw [way_begin.eq_1, mset_same, cpart hR1.r (by omega) (by omega), Option.bind_some, cpart hR1.r (by omega) (by omega), Option.bind_some, rut_eq (by omega), Option.bind_some, hu]
  obtain ⟨b, b1, b2, b3⟩ := lSet (b := 0) (i := u) (by omega) (by omega)
  have hsh : lShl 1 (u : Int) = ((2 ^ u : Nat) : Int) := by
    have := lShl_nat (n := 1) (s := u) (by omega) (by have : 2 ^ u < 2 ^ 63 := Nat.pow_lt_pow_right (by omega) (by omega); omega)
    simpa using this
  have hlt : 2 ^ u < 9223372036854775808 := by have : 2 ^ u < 2 ^ 63 := Nat.pow_lt_pow_right (by omega) (by omega); omega
  have hbit : ∀ t, (2 ^ u).testBit t = true ↔ u = t := fun t => by
    rw [Nat.testBit_two_pow]; simp
  have e0 : ((0 : Nat) : Int) = 0 := rfl
  obtain ⟨b', k1, k2, k3, k4, k5⟩ := creach18 (μ := mset μ 51 2 c) (s0 := (u : Int)) hR1 hO (by rw [mset_same]) hc 64 BIG 0 (2 ^ u) 0 (by omega) (by omega) (by omega) hlt (by omega) (fun s s1 s2 q => ⟨0, by
      unfold bX at q
      have := (hbit s.toNat).mp q
      show s = (u : Int)
      omega⟩) (by unfold bX; rw [Int.toNat_natCast]; exact (hbit u).mpr rfl) (by omega) (by omega) (fun t q => by rw [Nat.zero_testBit] at q; cases q) (fun s' t a _ q => by rw [Nat.zero_testBit] at q; cases q) (fun _ => by
      have := cntX_pos (X := bX (2 ^ u)) (t := (u : Int)) 63 (by omega) (by omega) (by unfold bX; rw [Int.toNat_natCast]; exact (hbit u).mpr rfl)
      omega) (fun t ht => by
      cases hx : (2 ^ u).testBit t with
      | false => rfl
      | true => have := (hbit t).mp hx; omega)
  rw [e0] at k1
  refine ⟨bX b', ?_, ?_, ?_, k5⟩
  · rw [way_reached.eq_1, bnd.eq_1, hbeg, Option.bind_some, bnd.eq_1, hsh, k1, way_reached_77.eq_1]
    have h := creach83 k2 63 BIG 0 0 (mset μ 51 2 c) (by omega) (by omega)
    rw [e0] at h
    exact h
  · rw [← hu]; exact k3
  · rw [← hu]; exact k4
