/-! ===== a change of the road on both sides ===== -/
def AgR (R S : Rd) : Prop := (R 0 0 = S 0 0 ∧ R 0 1 = S 0 1 ∧ R 0 2 = S 0 2) ∧ (∀ i : Int, 0 ≤ i → i < 21 → R 1 i = S 1 i ∧ R 2 i = S 2 i ∧ R 3 i = S 3 i) ∧ (∀ i : Int, 0 ≤ i → i < 63 → R 4 i = S 4 i ∧ R 5 i = S 5 i) ∧ (∀ i : Int, 0 ≤ i → i < 35 → R 6 i = S 6 i) ∧ (∀ i : Int, 1 ≤ i → i < 8 → R 7 i = S 7 i) ∧ (∀ i : Int, 0 ≤ i → i < 61 → R 8 i = S 8 i) ∧ (∀ i : Int, 0 ≤ i → i < R 0 2 → R 9 i = S 9 i ∧ R 10 i = S 10 i)
theorem MC.ag {μ : Mem} {o : Nat} {R : Rd} (h : MC μ o R) : AgR R (mR μ o) := by
  obtain ⟨⟨a1, a2, a3⟩, b, c, d, e, f, g, h7, h8, h9⟩ := h
  exact ⟨⟨a1.symm, a2.symm, a3.symm⟩, fun i h1 h2 => ⟨(b i h1 h2).symm, (c i h1 h2).symm, (d i h1 h2).symm⟩, fun i h1 h2 => ⟨(e i h1 h2).symm, (f i h1 h2).symm⟩, fun i h1 h2 => (g i h1 h2).symm, fun i h1 h2 => (h7 i h1 h2).symm, fun i h1 h2 => (h8 i h1 h2).symm, fun i h1 h2 => ⟨(h9 i h1 h2).1.symm, (h9 i h1 h2).2.symm⟩⟩
theorem RC.to {μ : Mem} {r : Nat} {R S : Rd} (hn : R 0 1 ≤ 5) (ha : AgR R S) (H : RC μ r R) : RC μ r S := by
  obtain ⟨⟨a1, a2, a3⟩, b, c, ⟨bb, b1, b2, b3⟩, e, f, g, h7, ⟨ff, f1, f2, f3⟩, h9⟩ := H
  obtain ⟨⟨s1, s2, s3⟩, t1, t4, t6, t7, t8, t9⟩ := ha
  refine ⟨⟨a1.trans s1, a2.trans s2, a3.trans s3⟩, fun i h1 h2 => (b i h1 h2).trans (t1 i h1 h2).1, fun i h1 h2 => (c i h1 h2).trans (t1 i h1 h2).2.1, ⟨bb, b1, b2, fun i hi => ?_⟩, fun i h1 h2 => (e i h1 h2).trans (t4 i h1 h2).1, fun i h1 h2 => (f i h1 h2).trans (t4 i h1 h2).2, fun i h1 h2 => (g i h1 (by omega)).trans (t6 i h1 (by omega)), fun i h1 h2 => (h7 i h1 h2).trans (t7 i h1 h2), ⟨ff, f1, f2, fun i hi => ?_⟩, fun i h1 h2 => ?_⟩
  · rw [b3 i hi, (t1 i (by omega) (by omega)).2.2]
  · rw [f3 i hi, t8 i (by omega) (by omega)]
  · rw [h9 i h1 (by omega), (t9 i h1 (by omega)).1, (t9 i h1 (by omega)).2]
theorem Ok.to {R S : Rd} (ha : AgR R S) (H : Ok R) : Ok S := by
  obtain ⟨a, b, c, d, e, f, g, h7, h8, h9⟩ := H
  obtain ⟨⟨s1, s2, s3⟩, t1, t4, t6, t7, t8, t9⟩ := ha
  refine ⟨by omega, fun i h1 h2 => by rw [← (t1 i h1 h2).1]; exact b i h1 h2, fun i h1 h2 => by rw [← (t1 i h1 h2).2.1]; exact c i h1 h2, fun i h1 h2 => by rw [← (t1 i h1 h2).2.2]; exact d i h1 h2, fun i h1 h2 => by rw [← (t4 i h1 h2).1]; exact e i h1 h2, fun i h1 h2 => by rw [← (t4 i h1 h2).2]; exact f i h1 h2, fun i h1 h2 => ?_, fun i h1 h2 => by rw [← t7 i h1 h2]; exact h7 i h1 h2, fun i h1 h2 => by rw [← t8 i h1 h2]; exact h8 i h1 h2, fun i h1 h2 => ?_⟩
  · have := g i h1 (by omega)
    unfold pt at this ⊢
    rw [← t6 _ (by omega) (by omega), ← t6 _ (by omega) (by omega), ← t6 _ (by omega) (by omega), ← t6 _ (by omega) (by omega), ← t6 _ (by omega) (by omega), ← t6 _ (by omega) (by omega), ← t6 _ (by omega) (by omega), ← s1]
    exact this
  · rw [← (t9 i h1 (by omega)).1, ← (t9 i h1 (by omega)).2, ← s1]
    exact h9 i h1 (by omega)
theorem Ok.n {R : Rd} (H : Ok R) : 0 ≤ R 0 1 ∧ R 0 1 ≤ 5 := ⟨H.1.2.2.1, H.1.2.2.2.1⟩
theorem Iroad.of {μ : Mem} {R : Rd} (h1 : RC μ 1 R) (h2 : MC μ 0 R) (h3 : Ok R) : Iroad μ := ⟨h1.to h3.n.2 h2.ag, h3.to h2.ag⟩
/-- the reference's images don't see st below 185 -/
def SmO (o : Nat) (μ μ' : Mem) : Prop := μ' 61 2 = μ 61 2 ∧ (∀ j, o ≤ j → μ' 62 j = μ 62 j) ∧ μ' 64 = μ 64 ∧ μ' 65 = μ 65 ∧ μ' 66 = μ 66 ∧ μ' 67 = μ 67
theorem SmO.mRd {o : Nat} {μ μ' : Mem} (h : SmO o μ μ') {o' : Nat} (ho : o ≤ o') : mR μ' o' = mR μ o' := by
  obtain ⟨h1, h2, h4, h5, h6, h7⟩ := h
  funext s i
  unfold mR
  split
  all_goals try simp only [h1, h4, h5, h6, h7]
  all_goals first
    | rw [h2 _ (by omega), h2 _ (by omega)]
    | rw [h2 _ (by omega)]
theorem Iimg.low {μ μ' : Mem} (hm : SmO 185 μ μ') (h3 : μ' 63 = μ 63) (h0 : μ' 0 10 = μ 0 10) (h1 : ∀ a, 9 ≤ a → a ≤ 24 → μ' a = μ a) (H : Iimg μ) : Iimg μ' := by
  unfold Iimg
  rw [hm.mRd (by omega), hm.mRd (by omega), h3, h0]
  exact ⟨H.1, H.2.1, H.2.2.1, fun h => ⟨RC_congr (fun j _ _ => by rw [h1 9 (by omega) (by omega)]) (fun a h h' => h1 a (by omega) (by omega)) (H.2.2.2.1 h).1, (H.2.2.2.1 h).2⟩, fun h => ⟨RC_congr (fun j _ _ => by rw [h1 17 (by omega) (by omega)]) (fun a h h' => h1 a (by omega) (by omega)) (H.2.2.2.2 h).1, (H.2.2.2.2 h).2⟩⟩
/-- slots that a change of the road now may touch, plans' flags among them -/
def Rdw (a j : Nat) : Prop := Scr a j ∨ (1 ≤ a ∧ a ≤ 8) ∨ a = 46 ∨ (a = 62 ∧ j < 185)
theorem Inv.road {μ μ' : Mem} {R : Rd} (h : Off Rdw μ μ') (h1 : RC μ' 1 R) (h2 : MC μ' 0 R) (h3 : Ok R) (hc : Icache μ') (H : Inv μ) : Inv μ' := by
  obtain ⟨a1, a2, a3, a4, a5, a6, a7⟩ := H
  have q : ∀ a, ¬ ((27 ≤ a ∧ a ≤ 56) ∨ (68 ≤ a ∧ a ≤ 73) ∨ (75 ≤ a ∧ a ≤ 84) ∨ 88 ≤ a ∨ a ≤ 8 ∨ a = 62 ∨ a = 25 ∨ a = 57 ∨ a = 61) → μ' a = μ a := fun a n => h.cell (fun j => by unfold Rdw Scr; omega)
  refine ⟨Iroad.of h1 h2 h3, a2.low ⟨h _ _ (by unfold Rdw Scr; omega), fun j hj => h _ _ (by unfold Rdw Scr; omega), q _ (by omega), q _ (by omega), q _ (by omega), q _ (by omega)⟩ (q _ (by omega)) (h _ _ (by unfold Rdw Scr; omega)) (fun a _ _ => q _ (by omega)), a3.same (h _ _ (by unfold Rdw Scr; omega)) (h _ _ (by unfold Rdw Scr; omega)) (q _ (by omega)) (q _ (by omega)), a4.same (q _ (by omega)) (q _ (by omega)) (q _ (by omega)) (q _ (by omega)) (q _ (by omega)) (q _ (by omega)), a5.same (h _ _ (by unfold Rdw Scr; omega)) (h _ _ (by unfold Rdw Scr; omega)), a6.same (h _ _ (by unfold Rdw Scr; omega)) (h _ _ (by unfold Rdw Scr; omega)), hc⟩
/-! ===== one number of the road set ===== -/
theorem uq_ap (S : Rd) (a : Nat) (i v : Int) (b : Nat) (j : Int) : uq S a i v b j = if b = a ∧ j = i then v else S b j := rfl
theorem RC.set5 {μ : Mem} {r : Nat} {R : Rd} {i v : Int} (hi : 0 ≤ i) (H : RC μ r R) : RC (mset μ (r + 4) i.toNat v) r (uq R 5 i v) := by
  obtain ⟨⟨a1, a2, a3⟩, b, c, ⟨bb, b1, b2, b3⟩, e, f, g, h7, ⟨ff, f1, f2, f3⟩, h9⟩ := H
  refine ⟨⟨by rw [mset_ap, uq_ap, if_neg (by omega), if_neg (by omega)]; exact a1, by rw [mset_ap, uq_ap, if_neg (by omega), if_neg (by omega)]; exact a2, by rw [mset_ap, uq_ap, if_neg (by omega), if_neg (by omega)]; exact a3⟩,
    fun j h1 h2 => by rw [mset_ap, uq_ap, if_neg (by omega), if_neg (by omega)]; exact b j h1 h2,
    fun j h1 h2 => by rw [mset_ap, uq_ap, if_neg (by omega), if_neg (by omega)]; exact c j h1 h2,
    ⟨bb, by rw [mset_ap, if_neg (by omega)]; exact b1, b2, fun j hj => by rw [uq_ap, if_neg (by omega)]; exact b3 j hj⟩,
    fun j h1 h2 => by rw [mset_ap, uq_ap, if_neg (by omega), if_neg (by omega)]; exact e j h1 h2,
    fun j h1 h2 => by
    rw [mset_ap, uq_ap]
    by_cases h : j = i
    · rw [if_pos ⟨rfl, by rw [h]⟩, if_pos ⟨rfl, h⟩]
    · rw [if_neg (by omega), if_neg (by omega)]; exact f j h1 h2,
    fun j h1 h2 => by
    rw [uq_ap, if_neg (by omega)] at h2
    rw [mset_ap, uq_ap, if_neg (by omega), if_neg (by omega)]; exact g j h1 h2,
    fun j h1 h2 => by rw [mset_ap, uq_ap, if_neg (by omega), if_neg (by omega)]; exact h7 j h1 h2,
    ⟨ff, by rw [mset_ap, if_neg (by omega)]; exact f1, f2, fun j hj => by rw [uq_ap, if_neg (by omega)]; exact f3 j hj⟩,
    fun j h1 h2 => by
    rw [uq_ap, if_neg (by omega)] at h2
    rw [mset_ap, uq_ap, uq_ap, if_neg (by omega), if_neg (by omega), if_neg (by omega)]; exact h9 j h1 h2⟩
theorem MC.set5 {μ : Mem} {o : Nat} {R : Rd} {i v : Int} (hi : 0 ≤ i ∧ i < 63) (hn : 0 ≤ R 0 2 ∧ R 0 2 ≤ 8) (H : MC μ o R) : MC (mset μ 62 (o + 36 + i.toNat) v) o (uq R 5 i v) := by
  obtain ⟨⟨a1, a2, a3⟩, b, c, d, e, f, g, h7, h8, h9⟩ := H
  refine ⟨⟨by rw [mset_ap, uq_ap, if_neg (by omega), if_neg (by omega)]; exact a1, by rw [mset_ap, uq_ap, if_neg (by omega), if_neg (by omega)]; exact a2, by rw [mset_ap, uq_ap, if_neg (by omega), if_neg (by omega)]; exact a3⟩,
    fun j h1 h2 => by rw [mset_ap, uq_ap, if_neg (by omega), if_neg (by omega)]; exact b j h1 h2,
    fun j h1 h2 => by rw [mset_ap, uq_ap, if_neg (by omega), if_neg (by omega)]; exact c j h1 h2,
    fun j h1 h2 => by rw [mset_ap, uq_ap, if_neg (by omega), if_neg (by omega)]; exact d j h1 h2,
    fun j h1 h2 => by rw [mset_ap, uq_ap, if_neg (by omega), if_neg (by omega)]; exact e j h1 h2,
    fun j h1 h2 => by
    rw [mset_ap, uq_ap]
    by_cases h : j = i
    · rw [if_pos ⟨rfl, by rw [h]⟩, if_pos ⟨rfl, h⟩]
    · rw [if_neg (by omega), if_neg (by omega)]; exact f j h1 h2,
    fun j h1 h2 => by rw [mset_ap, uq_ap, if_neg (by omega), if_neg (by omega)]; exact g j h1 h2,
    fun j h1 h2 => by rw [mset_ap, uq_ap, if_neg (by omega), if_neg (by omega)]; exact h7 j h1 h2,
    fun j h1 h2 => by rw [mset_ap, uq_ap, if_neg (by omega), if_neg (by omega)]; exact h8 j h1 h2,
    fun j h1 h2 => by
    rw [uq_ap, if_neg (by omega)] at h2
    rw [mset_ap, mset_ap, uq_ap, uq_ap, if_neg (by omega), if_neg (by omega), if_neg (by omega), if_neg (by omega)]; exact h9 j h1 h2⟩
theorem Ok.set5 {R : Rd} {i v : Int} (hv : 0 ≤ v ∧ v ≤ 99) (H : Ok R) : Ok (uq R 5 i v) := by
  obtain ⟨a, b, c, d, e, f, g, h7, h8, h9⟩ := H
  refine ⟨by
    rw [uq_ap, uq_ap, uq_ap, if_neg (by omega), if_neg (by omega), if_neg (by omega)]; exact a,
    fun j h1 h2 => by rw [uq_ap, if_neg (by omega)]; exact b j h1 h2,
    fun j h1 h2 => by rw [uq_ap, if_neg (by omega)]; exact c j h1 h2,
    fun j h1 h2 => by rw [uq_ap, if_neg (by omega)]; exact d j h1 h2,
    fun j h1 h2 => by rw [uq_ap, if_neg (by omega)]; exact e j h1 h2,
    fun j h1 h2 => by
    rw [uq_ap]
    by_cases h : 5 = 5 ∧ j = i
    · rw [if_pos h]; omega
    · rw [if_neg h]; exact f j h1 h2,
    fun j h1 h2 => by
    rw [uq_ap, if_neg (by omega)] at h2
    have := g j h1 h2
    unfold pt at this ⊢
    simp only [uq_ap, show ¬ (6 = 5) by omega, show ¬ (0 = 5) by omega, false_and, if_false]
    exact this,
    fun j h1 h2 => by rw [uq_ap, if_neg (by omega)]; exact h7 j h1 h2,
    fun j h1 h2 => by rw [uq_ap, if_neg (by omega)]; exact h8 j h1 h2,
    fun j h1 h2 => by
    rw [uq_ap, if_neg (by omega)] at h2
    rw [uq_ap, uq_ap, uq_ap, if_neg (by omega), if_neg (by omega), if_neg (by omega)]; exact h9 j h1 h2⟩
theorem RC.set6 {μ : Mem} {r : Nat} {R : Rd} {i v : Int} (hi : 0 ≤ i) (H : RC μ r R) : RC (mset μ (r + 5) i.toNat v) r (uq R 6 i v) := by
  obtain ⟨⟨a1, a2, a3⟩, b, c, ⟨bb, b1, b2, b3⟩, e, f, g, h7, ⟨ff, f1, f2, f3⟩, h9⟩ := H
  refine ⟨⟨by rw [mset_ap, uq_ap, if_neg (by omega), if_neg (by omega)]; exact a1, by rw [mset_ap, uq_ap, if_neg (by omega), if_neg (by omega)]; exact a2, by rw [mset_ap, uq_ap, if_neg (by omega), if_neg (by omega)]; exact a3⟩,
    fun j h1 h2 => by rw [mset_ap, uq_ap, if_neg (by omega), if_neg (by omega)]; exact b j h1 h2,
    fun j h1 h2 => by rw [mset_ap, uq_ap, if_neg (by omega), if_neg (by omega)]; exact c j h1 h2,
    ⟨bb, by rw [mset_ap, if_neg (by omega)]; exact b1, b2, fun j hj => by rw [uq_ap, if_neg (by omega)]; exact b3 j hj⟩,
    fun j h1 h2 => by rw [mset_ap, uq_ap, if_neg (by omega), if_neg (by omega)]; exact e j h1 h2,
    fun j h1 h2 => by rw [mset_ap, uq_ap, if_neg (by omega), if_neg (by omega)]; exact f j h1 h2,
    fun j h1 h2 => by
    rw [mset_ap, uq_ap]
    by_cases h : j = i
    · rw [if_pos ⟨rfl, by rw [h]⟩, if_pos ⟨rfl, h⟩]
    · rw [if_neg (by omega), if_neg (by omega)]; exact g j h1 (by rw [uq_ap, if_neg (by omega)] at h2; exact h2),
    fun j h1 h2 => by rw [mset_ap, uq_ap, if_neg (by omega), if_neg (by omega)]; exact h7 j h1 h2,
    ⟨ff, by rw [mset_ap, if_neg (by omega)]; exact f1, f2, fun j hj => by rw [uq_ap, if_neg (by omega)]; exact f3 j hj⟩,
    fun j h1 h2 => by
    rw [uq_ap, if_neg (by omega)] at h2
    rw [mset_ap, uq_ap, uq_ap, if_neg (by omega), if_neg (by omega), if_neg (by omega)]; exact h9 j h1 h2⟩
theorem MC.set6 {μ : Mem} {o : Nat} {R : Rd} {i v : Int} (hi : 0 ≤ i ∧ i < 35) (hn : 0 ≤ R 0 2 ∧ R 0 2 ≤ 8) (H : MC μ o R) : MC (mset μ 62 (o + 1 + i.toNat) v) o (uq R 6 i v) := by
  obtain ⟨⟨a1, a2, a3⟩, b, c, d, e, f, g, h7, h8, h9⟩ := H
  refine ⟨⟨by rw [mset_ap, uq_ap, if_neg (by omega), if_neg (by omega)]; exact a1, by rw [mset_ap, uq_ap, if_neg (by omega), if_neg (by omega)]; exact a2, by rw [mset_ap, uq_ap, if_neg (by omega), if_neg (by omega)]; exact a3⟩,
    fun j h1 h2 => by rw [mset_ap, uq_ap, if_neg (by omega), if_neg (by omega)]; exact b j h1 h2,
    fun j h1 h2 => by rw [mset_ap, uq_ap, if_neg (by omega), if_neg (by omega)]; exact c j h1 h2,
    fun j h1 h2 => by rw [mset_ap, uq_ap, if_neg (by omega), if_neg (by omega)]; exact d j h1 h2,
    fun j h1 h2 => by rw [mset_ap, uq_ap, if_neg (by omega), if_neg (by omega)]; exact e j h1 h2,
    fun j h1 h2 => by rw [mset_ap, uq_ap, if_neg (by omega), if_neg (by omega)]; exact f j h1 h2,
    fun j h1 h2 => by
    rw [mset_ap, uq_ap]
    by_cases h : j = i
    · rw [if_pos ⟨rfl, by rw [h]⟩, if_pos ⟨rfl, h⟩]
    · rw [if_neg (by omega), if_neg (by omega)]; exact g j h1 h2,
    fun j h1 h2 => by rw [mset_ap, uq_ap, if_neg (by omega), if_neg (by omega)]; exact h7 j h1 h2,
    fun j h1 h2 => by rw [mset_ap, uq_ap, if_neg (by omega), if_neg (by omega)]; exact h8 j h1 h2,
    fun j h1 h2 => by
    rw [uq_ap, if_neg (by omega)] at h2
    rw [mset_ap, mset_ap, uq_ap, uq_ap, if_neg (by omega), if_neg (by omega), if_neg (by omega), if_neg (by omega)]; exact h9 j h1 h2⟩
theorem RC.set7 {μ : Mem} {r : Nat} {R : Rd} {i v : Int} (hi : 0 ≤ i) (H : RC μ r R) : RC (mset μ (r + 6) i.toNat v) r (uq R 7 i v) := by
  obtain ⟨⟨a1, a2, a3⟩, b, c, ⟨bb, b1, b2, b3⟩, e, f, g, h7, ⟨ff, f1, f2, f3⟩, h9⟩ := H
  refine ⟨⟨by rw [mset_ap, uq_ap, if_neg (by omega), if_neg (by omega)]; exact a1, by rw [mset_ap, uq_ap, if_neg (by omega), if_neg (by omega)]; exact a2, by rw [mset_ap, uq_ap, if_neg (by omega), if_neg (by omega)]; exact a3⟩,
    fun j h1 h2 => by rw [mset_ap, uq_ap, if_neg (by omega), if_neg (by omega)]; exact b j h1 h2,
    fun j h1 h2 => by rw [mset_ap, uq_ap, if_neg (by omega), if_neg (by omega)]; exact c j h1 h2,
    ⟨bb, by rw [mset_ap, if_neg (by omega)]; exact b1, b2, fun j hj => by rw [uq_ap, if_neg (by omega)]; exact b3 j hj⟩,
    fun j h1 h2 => by rw [mset_ap, uq_ap, if_neg (by omega), if_neg (by omega)]; exact e j h1 h2,
    fun j h1 h2 => by rw [mset_ap, uq_ap, if_neg (by omega), if_neg (by omega)]; exact f j h1 h2,
    fun j h1 h2 => by
    rw [uq_ap, if_neg (by omega)] at h2
    rw [mset_ap, uq_ap, if_neg (by omega), if_neg (by omega)]; exact g j h1 h2,
    fun j h1 h2 => by
    rw [mset_ap, uq_ap]
    by_cases h : j = i
    · rw [if_pos ⟨rfl, by rw [h]⟩, if_pos ⟨rfl, h⟩]
    · rw [if_neg (by omega), if_neg (by omega)]; exact h7 j h1 h2,
    ⟨ff, by rw [mset_ap, if_neg (by omega)]; exact f1, f2, fun j hj => by rw [uq_ap, if_neg (by omega)]; exact f3 j hj⟩,
    fun j h1 h2 => by
    rw [uq_ap, if_neg (by omega)] at h2
    rw [mset_ap, uq_ap, uq_ap, if_neg (by omega), if_neg (by omega), if_neg (by omega)]; exact h9 j h1 h2⟩
theorem MC.set7 {μ : Mem} {o : Nat} {R : Rd} {i v : Int} (hi : 0 ≤ i ∧ i < 8) (hn : 0 ≤ R 0 2 ∧ R 0 2 ≤ 8) (H : MC μ o R) : MC (mset μ 62 (o + 160 + i.toNat) v) o (uq R 7 i v) := by
  obtain ⟨⟨a1, a2, a3⟩, b, c, d, e, f, g, h7, h8, h9⟩ := H
  refine ⟨⟨by rw [mset_ap, uq_ap, if_neg (by omega), if_neg (by omega)]; exact a1, by rw [mset_ap, uq_ap, if_neg (by omega), if_neg (by omega)]; exact a2, by rw [mset_ap, uq_ap, if_neg (by omega), if_neg (by omega)]; exact a3⟩,
    fun j h1 h2 => by rw [mset_ap, uq_ap, if_neg (by omega), if_neg (by omega)]; exact b j h1 h2,
    fun j h1 h2 => by rw [mset_ap, uq_ap, if_neg (by omega), if_neg (by omega)]; exact c j h1 h2,
    fun j h1 h2 => by rw [mset_ap, uq_ap, if_neg (by omega), if_neg (by omega)]; exact d j h1 h2,
    fun j h1 h2 => by rw [mset_ap, uq_ap, if_neg (by omega), if_neg (by omega)]; exact e j h1 h2,
    fun j h1 h2 => by rw [mset_ap, uq_ap, if_neg (by omega), if_neg (by omega)]; exact f j h1 h2,
    fun j h1 h2 => by rw [mset_ap, uq_ap, if_neg (by omega), if_neg (by omega)]; exact g j h1 h2,
    fun j h1 h2 => by
    rw [mset_ap, uq_ap]
    by_cases h : j = i
    · rw [if_pos ⟨rfl, by rw [h]⟩, if_pos ⟨rfl, h⟩]
    · rw [if_neg (by omega), if_neg (by omega)]; exact h7 j h1 h2,
    fun j h1 h2 => by rw [mset_ap, uq_ap, if_neg (by omega), if_neg (by omega)]; exact h8 j h1 h2,
    fun j h1 h2 => by
    rw [uq_ap, if_neg (by omega)] at h2
    rw [mset_ap, mset_ap, uq_ap, uq_ap, if_neg (by omega), if_neg (by omega), if_neg (by omega), if_neg (by omega)]; exact h9 j h1 h2⟩
theorem Ok.set7 {R : Rd} {i v : Int} (hv : 0 ≤ v ∧ v ≤ 60) (H : Ok R) : Ok (uq R 7 i v) := by
  obtain ⟨a, b, c, d, e, f, g, h7, h8, h9⟩ := H
  refine ⟨by
    rw [uq_ap, uq_ap, uq_ap, if_neg (by omega), if_neg (by omega), if_neg (by omega)]; exact a,
    fun j h1 h2 => by rw [uq_ap, if_neg (by omega)]; exact b j h1 h2,
    fun j h1 h2 => by rw [uq_ap, if_neg (by omega)]; exact c j h1 h2,
    fun j h1 h2 => by rw [uq_ap, if_neg (by omega)]; exact d j h1 h2,
    fun j h1 h2 => by rw [uq_ap, if_neg (by omega)]; exact e j h1 h2,
    fun j h1 h2 => by rw [uq_ap, if_neg (by omega)]; exact f j h1 h2,
    fun j h1 h2 => by
    rw [uq_ap, if_neg (by omega)] at h2
    have := g j h1 h2
    unfold pt at this ⊢
    simp only [uq_ap, show ¬ (6 = 7) by omega, show ¬ (0 = 7) by omega, false_and, if_false]
    exact this,
    fun j h1 h2 => by
    rw [uq_ap]
    by_cases h : 7 = 7 ∧ j = i
    · rw [if_pos h]; omega
    · rw [if_neg h]; exact h7 j h1 h2,
    fun j h1 h2 => by rw [uq_ap, if_neg (by omega)]; exact h8 j h1 h2,
    fun j h1 h2 => by
    rw [uq_ap, if_neg (by omega)] at h2
    rw [uq_ap, uq_ap, uq_ap, if_neg (by omega), if_neg (by omega), if_neg (by omega)]; exact h9 j h1 h2⟩
theorem MC.set8 {μ : Mem} {o : Nat} {R : Rd} {i v : Int} (hi : 0 ≤ i ∧ i < 61) (hn : 0 ≤ R 0 2 ∧ R 0 2 ≤ 8) (H : MC μ o R) : MC (mset μ 62 (o + 99 + i.toNat) v) o (uq R 8 i v) := by
  obtain ⟨⟨a1, a2, a3⟩, b, c, d, e, f, g, h7, h8, h9⟩ := H
  refine ⟨⟨by rw [mset_ap, uq_ap, if_neg (by omega), if_neg (by omega)]; exact a1, by rw [mset_ap, uq_ap, if_neg (by omega), if_neg (by omega)]; exact a2, by rw [mset_ap, uq_ap, if_neg (by omega), if_neg (by omega)]; exact a3⟩,
    fun j h1 h2 => by rw [mset_ap, uq_ap, if_neg (by omega), if_neg (by omega)]; exact b j h1 h2,
    fun j h1 h2 => by rw [mset_ap, uq_ap, if_neg (by omega), if_neg (by omega)]; exact c j h1 h2,
    fun j h1 h2 => by rw [mset_ap, uq_ap, if_neg (by omega), if_neg (by omega)]; exact d j h1 h2,
    fun j h1 h2 => by rw [mset_ap, uq_ap, if_neg (by omega), if_neg (by omega)]; exact e j h1 h2,
    fun j h1 h2 => by rw [mset_ap, uq_ap, if_neg (by omega), if_neg (by omega)]; exact f j h1 h2,
    fun j h1 h2 => by rw [mset_ap, uq_ap, if_neg (by omega), if_neg (by omega)]; exact g j h1 h2,
    fun j h1 h2 => by rw [mset_ap, uq_ap, if_neg (by omega), if_neg (by omega)]; exact h7 j h1 h2,
    fun j h1 h2 => by
    rw [mset_ap, uq_ap]
    by_cases h : j = i
    · rw [if_pos ⟨rfl, by rw [h]⟩, if_pos ⟨rfl, h⟩]
    · rw [if_neg (by omega), if_neg (by omega)]; exact h8 j h1 h2,
    fun j h1 h2 => by
    rw [uq_ap, if_neg (by omega)] at h2
    rw [mset_ap, mset_ap, uq_ap, uq_ap, if_neg (by omega), if_neg (by omega), if_neg (by omega), if_neg (by omega)]; exact h9 j h1 h2⟩
theorem Ok.set8 {R : Rd} {i v : Int} (hv : v = 0 ∨ v = 1) (H : Ok R) : Ok (uq R 8 i v) := by
  obtain ⟨a, b, c, d, e, f, g, h7, h8, h9⟩ := H
  refine ⟨by
    rw [uq_ap, uq_ap, uq_ap, if_neg (by omega), if_neg (by omega), if_neg (by omega)]; exact a,
    fun j h1 h2 => by rw [uq_ap, if_neg (by omega)]; exact b j h1 h2,
    fun j h1 h2 => by rw [uq_ap, if_neg (by omega)]; exact c j h1 h2,
    fun j h1 h2 => by rw [uq_ap, if_neg (by omega)]; exact d j h1 h2,
    fun j h1 h2 => by rw [uq_ap, if_neg (by omega)]; exact e j h1 h2,
    fun j h1 h2 => by rw [uq_ap, if_neg (by omega)]; exact f j h1 h2,
    fun j h1 h2 => by
    rw [uq_ap, if_neg (by omega)] at h2
    have := g j h1 h2
    unfold pt at this ⊢
    simp only [uq_ap, show ¬ (6 = 8) by omega, show ¬ (0 = 8) by omega, false_and, if_false]
    exact this,
    fun j h1 h2 => by rw [uq_ap, if_neg (by omega)]; exact h7 j h1 h2,
    fun j h1 h2 => by
    rw [uq_ap]
    by_cases h : 8 = 8 ∧ j = i
    · rw [if_pos h]; omega
    · rw [if_neg h]; exact h8 j h1 h2,
    fun j h1 h2 => by
    rw [uq_ap, if_neg (by omega)] at h2
    rw [uq_ap, uq_ap, uq_ap, if_neg (by omega), if_neg (by omega), if_neg (by omega)]; exact h9 j h1 h2⟩
theorem RC.set8 {μ : Mem} {r : Nat} {R : Rd} {h : Nat} {v : Int} {g : Nat} (hg : g < 2305843009213693952) (hb : ∀ i : Nat, i < 61 → g.testBit i = if i = h then decide (v = 1) else decide (R 8 (i : Int) = 1)) (H : RC μ r R) : RC (mset μ r 8 (g : Int)) r (uq R 8 (h : Int) v) := by
  obtain ⟨⟨a1, a2, a3⟩, b, c, ⟨bb, b1, b2, b3⟩, e, f, g', h7, ⟨ff, f1, f2, f3⟩, h9⟩ := H
  refine ⟨⟨by rw [mset_ap, uq_ap, if_neg (by omega), if_neg (by omega)]; exact a1, by rw [mset_ap, uq_ap, if_neg (by omega), if_neg (by omega)]; exact a2, by rw [mset_ap, uq_ap, if_neg (by omega), if_neg (by omega)]; exact a3⟩,
    fun j h1 h2 => by rw [mset_ap, uq_ap, if_neg (by omega), if_neg (by omega)]; exact b j h1 h2,
    fun j h1 h2 => by rw [mset_ap, uq_ap, if_neg (by omega), if_neg (by omega)]; exact c j h1 h2,
    ⟨bb, by rw [mset_ap, if_neg (by omega)]; exact b1, b2, fun j hj => by rw [uq_ap, if_neg (by omega)]; exact b3 j hj⟩,
    fun j h1 h2 => by rw [mset_ap, uq_ap, if_neg (by omega), if_neg (by omega)]; exact e j h1 h2,
    fun j h1 h2 => by rw [mset_ap, uq_ap, if_neg (by omega), if_neg (by omega)]; exact f j h1 h2,
    fun j h1 h2 => by
    rw [uq_ap, if_neg (by omega)] at h2
    rw [mset_ap, uq_ap, if_neg (by omega), if_neg (by omega)]; exact g' j h1 h2,
    fun j h1 h2 => by rw [mset_ap, uq_ap, if_neg (by omega), if_neg (by omega)]; exact h7 j h1 h2,
    ⟨g, by rw [mset_ap, if_pos ⟨rfl, rfl⟩], hg, fun j hj => ?_⟩,
    fun j h1 h2 => by
    rw [uq_ap, if_neg (by omega)] at h2
    rw [mset_ap, uq_ap, uq_ap, if_neg (by omega), if_neg (by omega), if_neg (by omega)]; exact h9 j h1 h2⟩
  rw [hb j hj, uq_ap]
  by_cases hj : j = h
  · rw [if_pos hj, if_pos ⟨rfl, by omega⟩]
  · rw [if_neg hj, if_neg (by omega)]
