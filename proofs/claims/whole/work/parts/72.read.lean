/-! ===== read: several tracks more ===== -/
def adR (Y W : Int → Int) : Nat → Int → Rd → Rd
  | 0, _, R => R
  | m + 1, i, R => adR Y W m (i + 1) (addR R (Y i) (W i))
def adC (Y W : Int → Int) : Nat → Int → Mem → Mem
  | 0, _, μ => μ
  | m + 1, i, μ => adC Y W m (i + 1) (addC μ 1 (μ 1 11) (Y i) (W i))
def adM (Y W : Int → Int) : Nat → Int → Mem → Mem
  | 0, _, μ => μ
  | m + 1, i, μ => adM Y W m (i + 1) (addM μ 0 (μ 62 168) (Y i) (W i))
theorem addR02 (R : Rd) (y w : Int) : addR R y w 0 2 = R 0 2 + 1 := by unfold addR; rw [if_pos ⟨rfl, rfl⟩]
theorem addR00 (R : Rd) (y w : Int) : addR R y w 0 0 = R 0 0 := by unfold addR; rw [if_neg (by omega), if_neg (by omega), if_neg (by omega)]
theorem addC11 (μ : Mem) (n y w : Int) : addC μ 1 n y w 1 11 = n + 1 := by unfold addC; rw [mset_same]
theorem addC_off (μ : Mem) (n y w : Int) (a j : Nat) (h : a ≠ 8) (h' : ¬ (a = 1 ∧ j = 11)) : addC μ 1 n y w a j = μ a j := by unfold addC; rw [mset_ne h', mset_ne (by omega)]
theorem addM168 (μ : Mem) (n y w : Int) : addM μ 0 n y w 62 168 = n + 1 := by unfold addM; rw [mset_same]
theorem addM_off (μ : Mem) (n y w : Int) (a j : Nat) (h : ¬ (a = 62 ∧ (j = 168 ∨ j = 169 + 2 * n.toNat ∨ j = 170 + 2 * n.toNat))) : addM μ 0 n y w a j = μ a j := by unfold addM; rw [mset_ne (by omega), mset_ne (by omega), mset_ne (by omega)]
theorem adC_off (Y W : Int → Int) : ∀ (m : Nat) (i : Int) (μ : Mem) (a j : Nat), a ≠ 8 → ¬ (a = 1 ∧ j = 11) → adC Y W m i μ a j = μ a j := by
  intro m
  induction m with
  | zero => intro i μ a j _ _; rfl
  | succ m ih => intro i μ a j h h'; rw [adC, ih _ _ _ _ h h', addC_off _ _ _ _ _ _ h h']
theorem adM_off (Y W : Int → Int) : ∀ (m : Nat) (i : Int) (μ : Mem) (a j : Nat), 0 ≤ μ 62 168 → ¬ (a = 62 ∧ (j = 168 ∨ (169 + 2 * (μ 62 168).toNat ≤ j ∧ j < 169 + 2 * ((μ 62 168).toNat + m)))) → adM Y W m i μ a j = μ a j := by
  intro m
  induction m with
  | zero => intro i μ a j _ _; rfl
  | succ m ih =>
    intro i μ a j h0 h
    rw [adM, ih _ _ _ _ (by rw [addM168]; omega) (by rw [addM168]; omega), addM_off _ _ _ _ _ _ (by omega)]
theorem adM168 (Y W : Int → Int) : ∀ (m : Nat) (i : Int) (μ : Mem), adM Y W m i μ 62 168 = μ 62 168 + m := by
  intro m
  induction m with
  | zero => intro i μ; simp [adM]
  | succ m ih => intro i μ; rw [adM, ih, addM168]; omega
theorem adR02 (Y W : Int → Int) : ∀ (m : Nat) (i : Int) (R : Rd), adR Y W m i R 0 2 = R 0 2 + m := by
  intro m
  induction m with
  | zero => intro i μ; simp [adR]
  | succ m ih => intro i μ; rw [adR, ih, addR02]; omega
theorem RC.ad (Y W : Int → Int) : ∀ (m : Nat) (i : Int) (μ : Mem) (R : Rd), 0 ≤ R 0 2 → RC μ 1 R → RC (adC Y W m i μ) 1 (adR Y W m i R) := by
  intro m
  induction m with
  | zero => intro i μ R _ h; exact h
  | succ m ih =>
    intro i μ R h0 h
    have h3 : μ 1 11 = R 0 2 := h.1.2.2
    exact ih _ _ _ (by rw [addR02]; omega) (by rw [h3]; exact RC.add h0 h)
theorem MC.ad (Y W : Int → Int) : ∀ (m : Nat) (i : Int) (μ : Mem) (R : Rd), 0 ≤ R 0 2 → R 0 2 + m ≤ 8 → MC μ 0 R → MC (adM Y W m i μ) 0 (adR Y W m i R) := by
  intro m
  induction m with
  | zero => intro i μ R _ _ h; exact h
  | succ m ih =>
    intro i μ R h0 h8 h
    have h3 : μ 62 168 = R 0 2 := h.1.2.2
    exact ih _ _ _ (by rw [addR02]; omega) (by rw [addR02]; omega) (by rw [h3]; exact MC.add ⟨h0, by omega⟩ h)
theorem Ok.ad (Y W : Int → Int) : ∀ (m : Nat) (i : Int) (R : Rd), R 0 2 + m ≤ 8 → (∀ j : Int, i ≤ j → j < i + m → (0 ≤ Y j ∧ Y j ≤ R 0 0) ∧ 0 ≤ W j ∧ W j ≤ 2) → Ok R → Ok (adR Y W m i R) := by
  intro m
  induction m with
  | zero => intro i R _ _ h; exact h
  | succ m ih =>
    intro i R h8 hb h
    have hi := hb i (by omega) (by omega)
    refine ih _ _ (by rw [addR02]; omega) (fun j h1 h2 => ?_) (Ok.add (by omega) hi.1 hi.2 h)
    rw [addR00]; exact hb j (by omega) (by omega)
theorem readInv {μ : Mem} (H : Inv μ) (Y W : Int → Int) {m : Nat} {v : Int} (h8 : μ 62 168 + m ≤ 8) (hb : ∀ j : Int, 0 ≤ j → j < m → (0 ≤ Y j ∧ Y j ≤ μ 61 2) ∧ 0 ≤ W j ∧ W j ≤ 2) : Inv (mset (adM Y W m 0 (adC Y W m 0 (mset μ 57 3 v))) 61 39 v) := by
  obtain ⟨c1, c2, c3, c4, c5, c6⟩ := H.c
  obtain ⟨hR, hM, hO, hT⟩ := H.R
  have H2 : Inv (mset (mset μ 57 3 v) 61 39 v) := H.sheets ((Off.rf.set (by unfold Shw; omega)).set (by unfold Shw; omega)) (H.2.2.2.1.same (by rw [mset_off (by omega), mset_off (by omega)]) (by rw [mset_off (by omega), mset_off (by omega)]) (by rw [mset_off (by omega), mset_off (by omega)]) (by rw [mset_off (by omega), mset_off (by omega)]) (by rw [mset_off (by omega), mset_off (by omega)]) (by rw [mset_off (by omega), mset_off (by omega)])) (by unfold Itorn; rw [mset_ne (by omega), mset_same, mset_same])
  have f0 : 0 ≤ adC Y W m 0 (mset μ 57 3 v) 62 168 ∧ adC Y W m 0 (mset μ 57 3 v) 62 168 = μ 62 168 := by rw [adC_off _ _ _ _ _ _ _ (by omega) (by omega), mset_ne (by omega)]; omega
  have q : ∀ a j, a ≠ 8 → ¬ (a = 1 ∧ j = 11) → ¬ (a = 62 ∧ (j = 168 ∨ (169 + 2 * (μ 62 168).toNat ≤ j ∧ j < 169 + 2 * ((μ 62 168).toNat + m)))) → mset (adM Y W m 0 (adC Y W m 0 (mset μ 57 3 v))) 61 39 v a j = mset (mset μ 57 3 v) 61 39 v a j := fun a j h1 h2 h3 => by
    rw [mset_ap, mset_ap]
    by_cases z : a = 61 ∧ j = 39
    · rw [if_pos z, if_pos z]
    · rw [if_neg z, if_neg z, adM_off _ _ _ _ _ _ _ f0.1 (by rw [f0.2]; exact h3), adC_off _ _ _ _ _ _ _ h1 h2]
  refine Inv.road (R := adR Y W m 0 (mR μ 0)) (fun a j n => q a j (fun z => n (by unfold Rdw; omega)) (fun z => n (by unfold Rdw; omega)) (fun z => n (by unfold Rdw; omega))) ?_ ?_ ?_ ?_ H2
  · have h := RC.ad Y W m 0 (mset μ 57 3 v) (mR μ 0) hT.1 (hR.mod (by omega))
    refine h.off (fun a h1 h2 => funext fun j => ?_)
    rw [mset_ne (by omega), adM_off _ _ _ _ _ _ _ f0.1 (by omega)]
  · have h := MC.ad Y W m 0 (adC Y W m 0 (mset μ 57 3 v)) (mR μ 0) hT.1 h8 (MC.off (μ := μ) (by rw [adC_off _ _ _ _ _ _ _ (by omega) (by omega), mset_ne (by omega)]) (fun a h1 h2 h3 => funext fun j => by rw [adC_off _ _ _ _ _ _ _ (by omega) (by omega), mset_ne (by omega)]) hM)
    exact h.off (by rw [mset_ne (by omega)]) (fun a h1 h2 h3 => funext fun j => by rw [mset_ne (by omega)])
  · exact Ok.ad Y W m 0 (mR μ 0) h8 (fun j h1 h2 => hb j h1 (by omega)) hO
  · refine H2.2.2.2.2.2.2.same (q _ _ (by omega) (by omega) (by omega)) (fun j hj => q _ _ (by omega) (by omega) (by omega)) (funext fun j => q _ _ (by omega) (by omega) (by omega)) (funext fun j => q _ _ (by omega) (by omega) (by omega)) (funext fun j => q _ _ (by omega) (by omega) (by omega)) (fun j _ _ => q _ _ (by omega) (by omega) (by omega)) (funext fun j => q _ _ (by omega) (by omega) (by omega))
theorem readBad {μ : Mem} (H : Inv μ) (Y W : Int → Int) {m : Nat} (h8 : μ 62 168 + m ≤ 8) : Inv (mset (adM Y W m 0 μ) 62 168 (μ 62 168)) := by
  obtain ⟨c1, c2, c3, c4, c5, c6⟩ := H.c
  obtain ⟨hR, hM, hO, hT⟩ := H.R
  have q : ∀ a j, ¬ (a = 62 ∧ (169 + 2 * (μ 62 168).toNat ≤ j ∧ j < 169 + 2 * ((μ 62 168).toNat + m))) → mset (adM Y W m 0 μ) 62 168 (μ 62 168) a j = μ a j := fun a j h => by
    rw [mset_ap]
    by_cases z : a = 62 ∧ j = 168
    · rw [if_pos z, z.1, z.2]
    · rw [if_neg z, adM_off _ _ _ _ _ _ _ (by omega) (by omega)]
  refine Inv.road (R := mR μ 0) (fun a j n => q a j (fun z => n (by unfold Rdw; omega))) ?_ ?_ hO ?_ H
  · exact hR.off (fun a h1 h2 => funext fun j => q a j (by omega))
  · obtain ⟨⟨a1, a2, a3⟩, b', c, d, e, f, g, h7, h8', h9⟩ := hM
    have h3 : mR μ 0 0 2 = μ 62 168 := rfl
    exact ⟨⟨by rw [q _ _ (by omega)]; exact a1, by rw [q _ _ (by omega)]; exact a2, by rw [q _ _ (by omega)]; exact a3⟩,
      fun j h1 h2 => by rw [q _ _ (by omega)]; exact b' j h1 h2,
      fun j h1 h2 => by rw [q _ _ (by omega)]; exact c j h1 h2,
      fun j h1 h2 => by rw [q _ _ (by omega)]; exact d j h1 h2,
      fun j h1 h2 => by rw [q _ _ (by omega)]; exact e j h1 h2,
      fun j h1 h2 => by rw [q _ _ (by omega)]; exact f j h1 h2,
      fun j h1 h2 => by rw [q _ _ (by omega)]; exact g j h1 h2,
      fun j h1 h2 => by rw [q _ _ (by omega)]; exact h7 j h1 h2,
      fun j h1 h2 => by rw [q _ _ (by omega)]; exact h8' j h1 h2,
      fun j h1 h2 => by rw [q _ _ (by omega), q _ _ (by omega)]; exact h9 j h1 h2⟩
  · exact H.2.2.2.2.2.2.same (q _ _ (by omega)) (fun j hj => q _ _ (by omega)) (funext fun j => q _ _ (by omega)) (funext fun j => q _ _ (by omega)) (funext fun j => q _ _ (by omega)) (fun j _ _ => q _ _ (by omega)) (funext fun j => q _ _ (by omega))
theorem cell_eq {μ : Mem} {k i : Int} (h : 0 ≤ k ∧ k < 4 ∧ 0 ≤ i ∧ i < 40) : she_cell μ k i = some (μ 58 (40 * k + i).toNat) := by
  unfold she_cell
  rw [wI_id (x := k * 40) (by omega), wI_id (by omega), show k * 40 + i = 40 * k + i by omega, at_in (by omega), Option.bind_some]
/-- the class's adding loop -/
theorem rd163 {k f : Int} {w : Nat} (hk : 0 ≤ k ∧ k < 4) (hf : 0 ≤ f ∧ f + 2 * w ≤ 40) (Y W : Int → Int) : ∀ (m g : Nat) (i : Int) (μ : Mem), m < g → 0 ≤ i → i + m = w → 0 ≤ μ 1 11 → μ 1 11 + m ≤ 8 → (∀ j : Int, 0 ≤ j → j < w → Y j = rdY μ k f j ∧ W j = rdW μ k f j ∧ (0 ≤ Y j ∧ Y j ≤ 20) ∧ 0 ≤ W j ∧ W j ≤ 2) → ww_read_163 g k f (w : Int) i μ = some ((w : Int), adC Y W m i μ) := by
  intro m
  induction m with
  | zero =>
    intro g i μ hg h0 hw h1 h8 hb
    obtain ⟨g, rfl⟩ : ∃ z, g = z + 1 := ⟨g - 1, by omega⟩
    rw [ww_read_163.eq_2, if_pos (by omega)]; rfl
  | succ m ih =>
    intro g i μ hg h0 hw h1 h8 hb
    obtain ⟨g, rfl⟩ : ∃ z, g = z + 1 := ⟨g - 1, by omega⟩
    obtain ⟨y1, y2, y3, y4⟩ := hb i h0 (by omega)
    have e1 : she_cell μ k (wI (f + wI (2 * i))) = some (Y i) := by
      rw [wI_id (x := 2 * i) (by omega), wI_id (by omega), cell_eq (by omega), y1]
      unfold rdY
      rw [show 40 * k + (f + 2 * i) = 40 * k + f + 2 * i by omega]
    have e2 : she_cell μ k (wI (wI (f + wI (2 * i)) + 1)) = some (W i) := by
      rw [wI_id (x := 2 * i) (by omega), wI_id (x := f + 2 * i) (by omega), wI_id (by omega), cell_eq (by omega), y2]
      unfold rdW
      rw [show 40 * k + (f + 2 * i + 1) = 40 * k + f + 2 * i + 1 by omega]
    rw [ww_read_163.eq_2, if_neg (by omega), e1, Option.bind_some, e2, Option.bind_some, addTrack_eq (by omega) y4 (by omega), Option.bind_some, wI_id (by omega)]
    rw [adC]
    refine ih g (i + 1) (addC μ 1 (μ 1 11) (Y i) (W i)) (by omega) (by omega) (by omega) (by rw [addC11]; omega) (by rw [addC11]; omega) (fun j h1 h2 => ?_)
    have := hb j h1 h2
    unfold rdY rdW at this ⊢
    rw [addC_off _ _ _ _ _ _ (by omega) (by omega), addC_off _ _ _ _ _ _ (by omega) (by omega)]
    exact this
