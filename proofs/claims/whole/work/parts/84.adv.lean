/-! ===== the next order ===== -/
theorem fI_le (a : Int → Int) : ∀ (f : Nat) (i : Int), fI a f i ≤ i := by
  intro f
  induction f with
  | zero => intro i; show i ≤ i; omega
  | succ f ih =>
    intro i
    rw [fI]
    split
    · omega
    · split
      · omega
      · have := ih (i - 1); omega
theorem fI_ge (a : Int → Int) : ∀ (f : Nat) (i : Int), -1 ≤ i → -1 ≤ fI a f i := by
  intro f
  induction f with
  | zero => intro i h; exact h
  | succ f ih =>
    intro i h
    rw [fI]
    split
    · omega
    · split
      · omega
      · exact ih (i - 1) (by omega)
theorem fI_stop (a : Int → Int) : ∀ (f : Nat) (i : Int), i < f → 0 ≤ fI a f i → a (fI a f i) ≤ a (fI a f i + 1) := by
  intro f
  induction f with
  | zero => intro i h h0; have : fI a 0 i = i := rfl; omega
  | succ f ih =>
    intro i h
    rw [fI]
    split
    · intro h0; omega
    · split
      · intro _; assumption
      · exact ih (i - 1) (by omega)
theorem fJ_le (a : Int → Int) (i : Int) : ∀ (f : Nat) (j : Int), fJ a i f j ≤ j := by
  intro f
  induction f with
  | zero => intro j; show j ≤ j; omega
  | succ f ih =>
    intro j
    rw [fJ]
    split
    · omega
    · split
      · omega
      · have := ih (j - 1); omega
theorem fJ_ge (a : Int → Int) (i : Int) : ∀ (f : Nat) (j : Int), i ≤ j → i ≤ fJ a i f j := by
  intro f
  induction f with
  | zero => intro j h; exact h
  | succ f ih =>
    intro j h
    rw [fJ]
    split
    · omega
    · split
      · omega
      · exact ih (j - 1) (by omega)
theorem ofL_nrm (b : Int → Int) (i : Int) (h : 0 ≤ i ∧ i < 5) : ofL (nrm b) i = b i := by
  have : i = 0 ∨ i = 1 ∨ i = 2 ∨ i = 3 ∨ i = 4 := by omega
  rcases this with h | h | h | h | h <;> subst h <;> rfl
theorem ofL_id (i : Int) (h : 0 ≤ i ∧ i < 5) : ofL idL i = i := by
  have : i = 0 ∨ i = 1 ∨ i = 2 ∨ i = 3 ∨ i = 4 := by omega
  rcases this with h | h | h | h | h <;> subst h <;> rfl
theorem exch_eq {o : Nat} {μ : Mem} {a : Int → Int} {i j : Int} (hi : 0 ≤ i ∧ i < 5) (hj : 0 ≤ j ∧ j < 5) (H : OrdM μ (o + 1) 5 a) : ∃ μ', ord_exchange o i j μ = some μ' ∧ (∀ x k, x ≠ o + 1 → μ' x k = μ x k) ∧ OrdM μ' (o + 1) 5 (sw a i j) := by
  unfold ord_exchange
  rw [at_in (by omega), Option.bind_some, swap_in (by omega), Option.bind_some, put_in (by omega), Option.bind_some]
  refine ⟨_, rfl, fun x k h => by rw [mset_off h]; show mset μ (o + 1) j.toNat _ x k = _; rw [mset_off h], fun k k1 k2 => ?_⟩
  show mset (mset μ (o + 1) j.toNat (μ (o + 1) i.toNat)) (o + 1) i.toNat (μ (o + 1) j.toNat) (o + 1) k.toNat = _
  unfold sw
  rw [mset_ap, mset_ap]
  by_cases z : k = i
  · rw [if_pos ⟨rfl, by rw [z]⟩, if_pos z, H j hj.1 hj.2]
  · rw [if_neg (fun q => z (by omega)), if_neg z]
    by_cases y : k = j
    · rw [if_pos ⟨rfl, by rw [y]⟩, if_pos y, H i hi.1 hi.2]
    · rw [if_neg (fun q => y (by omega)), if_neg y, H k k1 k2]
theorem cadv99 (o : Nat) : ∀ (g f : Nat) (lo hi : Int) (μ : Mem) (a : Int → Int), g < f → hi - lo ≤ 2 * g - 1 → 0 ≤ lo → hi < 5 → OrdM μ (o + 1) 5 a → ∃ μ', ord_advance_99 o f hi lo μ = some (1, μ') ∧ (∀ x k, x ≠ o + 1 → μ' x k = μ x k) ∧ OrdM μ' (o + 1) 5 (rvP g lo hi a) := by
  intro g
  induction g with
  | zero =>
    intro f lo hi μ a hf hg h0 h5 H
    obtain ⟨f, rfl⟩ : ∃ z, f = z + 1 := ⟨f - 1, by omega⟩
    rw [ord_advance_99.eq_2, if_pos (by omega)]
    exact ⟨μ, rfl, fun _ _ _ => rfl, H⟩
  | succ g ih =>
    intro f lo hi μ a hf hg h0 h5 H
    obtain ⟨f, rfl⟩ : ∃ z, f = z + 1 := ⟨f - 1, by omega⟩
    rw [ord_advance_99.eq_2, rvP]
    by_cases z : hi ≤ lo
    · rw [if_pos z, if_pos z]
      exact ⟨μ, rfl, fun _ _ _ => rfl, H⟩
    · rw [if_neg z, if_neg z]
      obtain ⟨μ1, e1, e2, e3⟩ := exch_eq (i := lo) (j := hi) (by omega) (by omega) H
      obtain ⟨μ2, k1, k2, k3⟩ := ih f (lo + 1) (hi - 1) μ1 (sw a lo hi) (by omega) (by omega) (by omega) (by omega) e3
      refine ⟨μ2, ?_, fun x k h => (k2 x k h).trans (e2 x k h), k3⟩
      rw [e1, Option.bind_some, wI_id (x := hi + -1) (by omega), wI_id (x := lo + 1) (by omega), show hi + -1 = hi - 1 by omega, k1]
theorem cadv51 {o : Nat} {μ : Mem} {a : Int → Int} (H : OrdM μ (o + 1) 5 a) {i : Int} (hi : 0 ≤ i ∧ i < 5) : ∀ (g f : Nat) (j : Int), g < f → j - i ≤ g → j < 5 → i ≤ j → ord_advance_51 o f i j μ = ord_advance_81 o i (fJ a i g j) μ := by
  intro g
  induction g with
  | zero =>
    intro f j hf hg h5 hij
    obtain ⟨f, rfl⟩ : ∃ z, f = z + 1 := ⟨f - 1, by omega⟩
    rw [ord_advance_51.eq_2, if_pos (by omega)]; rfl
  | succ g ih =>
    intro f j hf hg h5 hij
    obtain ⟨f, rfl⟩ : ∃ z, f = z + 1 := ⟨f - 1, by omega⟩
    rw [ord_advance_51.eq_2, fJ]
    by_cases z : j ≤ i
    · rw [if_pos z, if_pos z]
    · rw [if_neg z, if_neg z, at_in (by omega), Option.bind_some, at_in (by omega), Option.bind_some, H j (by omega) h5, H i hi.1 hi.2]
      by_cases y : a i ≤ a j
      · rw [if_pos y, if_pos y]
      · rw [if_neg y, if_neg y, wI_id (by omega), show j + -1 = j - 1 by omega]
        exact ih f (j - 1) (by omega) (by omega) (by omega) (by omega)
theorem cadv7 {o : Nat} {μ : Mem} {a : Int → Int} (H : OrdM μ (o + 1) 5 a) : ∀ (g f : Nat) (i : Int), g < f → i < g → i < 4 → -1000 ≤ i → ord_advance_7 o f i μ = ord_advance_38 o (fI a g i) μ := by
  intro g
  induction g with
  | zero =>
    intro f i hf hg h5 h0
    obtain ⟨f, rfl⟩ : ∃ z, f = z + 1 := ⟨f - 1, by omega⟩
    rw [ord_advance_7.eq_2, if_pos (by omega)]; rfl
  | succ g ih =>
    intro f i hf hg h5 h0
    obtain ⟨f, rfl⟩ : ∃ z, f = z + 1 := ⟨f - 1, by omega⟩
    rw [ord_advance_7.eq_2, fI]
    by_cases z : i < 0
    · rw [if_pos z, if_pos z]
    · rw [if_neg z, if_neg z, at_in (by omega), Option.bind_some, wI_id (x := i + 1) (by omega), at_in (by omega), Option.bind_some, H i (by omega) (by omega), H (i + 1) (by omega) (by omega)]
      by_cases y : a i ≤ a (i + 1)
      · rw [if_pos y, if_pos y]
      · rw [if_neg y, if_neg y, wI_id (by omega), show i + -1 = i - 1 by omega]
        exact ih f (i - 1) (by omega) (by omega) (by omega) (by omega)
theorem cadv_eq {o : Nat} {μ : Mem} {n : Int} {p : List Int} (hn : 0 ≤ n ∧ n ≤ 5) (h1 : μ o 1 = n) (H : OrdM μ (o + 1) 5 (ofL p)) : (lastI n (ofL p) < 0 → ord_advance o μ = some (0, μ)) ∧ (¬ lastI n (ofL p) < 0 → ∃ μ', ord_advance o μ = some (1, μ') ∧ (∀ x k, x ≠ o + 1 → μ' x k = μ x k) ∧ OrdM μ' (o + 1) 5 (ofL (stepL n p))) := by
  have hB := BIG_gt
  have e7 : ord_advance o μ = ord_advance_38 o (lastI n (ofL p)) μ := by
    rw [ord_advance.eq_1, bnd.eq_1, h1, wI_id (by omega)]
    exact cadv7 H 6 BIG (n - 2) (by omega) (by omega) (by omega) (by omega)
  have hle := fI_le (ofL p) 6 (n - 2)
  rw [e7]
  unfold ord_advance_38
  constructor
  · intro h
    rw [if_neg (by omega)]
  · intro h
    have hle' : lastI n (ofL p) ≤ n - 2 := hle
    have hj1 := fJ_le (ofL p) (lastI n (ofL p)) 6 (n - 1)
    have hj2 := fJ_ge (ofL p) (lastI n (ofL p)) 6 (n - 1) (by omega)
    rw [if_pos (by omega), bnd.eq_1, h1, wI_id (by omega), cadv51 H (by omega) 6 BIG (n - 1) (by omega) (by omega) (by omega) (by omega)]
    obtain ⟨μ1, e1, e2, e3⟩ := exch_eq (i := lastI n (ofL p)) (j := fJ (ofL p) (lastI n (ofL p)) 6 (n - 1)) (by omega) (by omega) H
    obtain ⟨μ2, k1, k2, k3⟩ := cadv99 o 6 BIG (lastI n (ofL p) + 1) (n - 1) μ1 _ (by omega) (by omega) (by omega) (by omega) e3
    refine ⟨μ2, ?_, fun x k h => (k2 x k h).trans (e2 x k h), fun i i1 i2 => ?_⟩
    · rw [ord_advance_81.eq_1, e1, Option.bind_some, bnd.eq_1, bnd.eq_1, e2 _ _ (by omega), h1, wI_id (x := n - 1) (by omega), wI_id (by omega), k1]
    · rw [k3 i i1 i2]
      unfold stepL
      rw [ofL_nrm _ _ ⟨i1, i2⟩]; rfl
/-! ===== the reference's ===== -/
theorem mswap_eq {μ : Mem} {a : Int → Int} {i j : Int} (hi : 0 ≤ i ∧ i < 5) (hj : 0 ≤ j ∧ j < 5) (H : OrdM μ 80 5 a) : ∃ μ', mod_swaps i j μ = some μ' ∧ (∀ x k, x ≠ 80 → μ' x k = μ x k) ∧ OrdM μ' 80 5 (sw a i j) := by
  unfold mod_swaps
  rw [ld_ok (by omega), Option.bind_some, ld_ok (by omega), Option.bind_some, stx_ok (by omega), Option.bind_some, stx_ok (by omega), Option.bind_some]
  refine ⟨_, rfl, fun x k h => by rw [mset_off h, mset_off h], fun k k1 k2 => ?_⟩
  unfold sw
  rw [mset_ap, mset_ap]
  by_cases y : k = j
  · rw [if_pos ⟨rfl, by rw [y]⟩, H i hi.1 hi.2]
    by_cases z : k = i
    · rw [if_pos z, ← y, z]
    · rw [if_neg z, if_pos y]
  · rw [if_neg (fun q => y (by omega)), H j hj.1 hj.2]
    by_cases z : k = i
    · rw [if_pos ⟨rfl, by rw [z]⟩, if_pos z]
    · rw [if_neg (fun q => z (by omega)), if_neg z, if_neg y, H k k1 k2]
theorem madv85 : ∀ (g f : Nat) (lo hi : Int) (μ : Mem) (a : Int → Int), g < f → hi - lo ≤ 2 * g - 1 → 0 ≤ lo → hi < 5 → OrdM μ 80 5 a → ∃ μ', mod_nextOrder_85 f lo hi μ = some (1, μ') ∧ (∀ x k, x ≠ 80 → μ' x k = μ x k) ∧ OrdM μ' 80 5 (rvP g lo hi a) := by
  intro g
  induction g with
  | zero =>
    intro f lo hi μ a hf hg h0 h5 H
    obtain ⟨f, rfl⟩ : ∃ z, f = z + 1 := ⟨f - 1, by omega⟩
    rw [mod_nextOrder_85.eq_2, if_pos (by omega)]
    exact ⟨μ, rfl, fun _ _ _ => rfl, H⟩
  | succ g ih =>
    intro f lo hi μ a hf hg h0 h5 H
    obtain ⟨f, rfl⟩ : ∃ z, f = z + 1 := ⟨f - 1, by omega⟩
    rw [mod_nextOrder_85.eq_2, rvP]
    by_cases z : hi ≤ lo
    · rw [if_pos z, if_pos z]
      exact ⟨μ, rfl, fun _ _ _ => rfl, H⟩
    · rw [if_neg z, if_neg z]
      obtain ⟨μ1, e1, e2, e3⟩ := mswap_eq (i := lo) (j := hi) (by omega) (by omega) H
      obtain ⟨μ2, k1, k2, k3⟩ := ih f (lo + 1) (hi - 1) μ1 (sw a lo hi) (by omega) (by omega) (by omega) (by omega) e3
      refine ⟨μ2, ?_, fun x k h => (k2 x k h).trans (e2 x k h), k3⟩
      rw [e1, Option.bind_some, wI_id (x := hi + -1) (by omega), wI_id (x := lo + 1) (by omega), show hi + -1 = hi - 1 by omega, k1]
def m48E (n i j : Int) (μ : Mem) : Option (Int × Mem) := (mod_swaps i j μ).bind fun μ3 => mod_nextOrder_85 BIG (wI (i + 1)) (wI (n - 1)) μ3
theorem madv48 {μ : Mem} {a : Int → Int} (H : OrdM μ 80 5 a) {n i : Int} (hi : 0 ≤ i ∧ i < 5) : ∀ (g f : Nat) (j : Int), g < f → j - i ≤ g → j < 5 → i ≤ j → mod_nextOrder_48 f n i j μ = m48E n i (fJ a i g j) μ := by
  intro g
  induction g with
  | zero =>
    intro f j hf hg h5 hij
    obtain ⟨f, rfl⟩ : ∃ z, f = z + 1 := ⟨f - 1, by omega⟩
    have : j = i := by omega
    subst this
    rw [mod_nextOrder_48.eq_2, ld_ok (by omega), Option.bind_some, Option.bind_some, if_pos (by omega)]
    unfold m48E
    simp only [bnd.eq_1]
    rfl
  | succ g ih =>
    intro f j hf hg h5 hij
    obtain ⟨f, rfl⟩ : ∃ z, f = z + 1 := ⟨f - 1, by omega⟩
    rw [mod_nextOrder_48.eq_2, fJ, ld_ok (by omega), Option.bind_some, ld_ok (by omega), Option.bind_some, H j (by omega) h5, H i hi.1 hi.2]
    by_cases z : j ≤ i
    · have : j = i := by omega
      subst this
      rw [if_pos (by omega), if_pos z]
      unfold m48E
      simp only [bnd.eq_1]
    · rw [if_neg z]
      by_cases y : a i ≤ a j
      · rw [if_pos y, if_pos y]
        unfold m48E
        simp only [bnd.eq_1]
      · rw [if_neg y, if_neg y, wI_id (by omega), show j + -1 = j - 1 by omega]
        exact ih f (j - 1) (by omega) (by omega) (by omega) (by omega)
theorem madv11 {μ : Mem} {a : Int → Int} {n : Int} (H : OrdM μ 80 5 a) : ∀ (g f : Nat) (i : Int), g < f → i < g → i < 4 → -1000 ≤ i → mod_nextOrder_11 f n i μ = mod_nextOrder_38 n (fI a g i) μ := by
  intro g
  induction g with
  | zero =>
    intro f i hf hg h5 h0
    obtain ⟨f, rfl⟩ : ∃ z, f = z + 1 := ⟨f - 1, by omega⟩
    rw [mod_nextOrder_11.eq_2, if_pos (by omega)]; rfl
  | succ g ih =>
    intro f i hf hg h5 h0
    obtain ⟨f, rfl⟩ : ∃ z, f = z + 1 := ⟨f - 1, by omega⟩
    rw [mod_nextOrder_11.eq_2, fI]
    by_cases z : i < 0
    · rw [if_pos z, if_pos z]
    · rw [if_neg z, if_neg z, ld_ok (by omega), Option.bind_some, wI_id (x := i + 1) (by omega), ld_ok (by omega), Option.bind_some, H i (by omega) (by omega), H (i + 1) (by omega) (by omega)]
      by_cases y : a i ≤ a (i + 1)
      · rw [if_pos y, if_pos y]
      · rw [if_neg y, if_neg y, wI_id (by omega), show i + -1 = i - 1 by omega]
        exact ih f (i - 1) (by omega) (by omega) (by omega) (by omega)
theorem madv_eq {μ : Mem} {n : Int} {p : List Int} (hn : 0 ≤ n ∧ n ≤ 5) (h1 : μ 62 0 = n) (H : OrdM μ 80 5 (ofL p)) : (lastI n (ofL p) < 0 → mod_nextOrder μ = some (0, μ)) ∧ (¬ lastI n (ofL p) < 0 → ∃ μ', mod_nextOrder μ = some (1, μ') ∧ (∀ x k, x ≠ 80 → μ' x k = μ x k) ∧ OrdM μ' 80 5 (ofL (stepL n p))) := by
  have hB := BIG_gt
  have e7 : mod_nextOrder μ = mod_nextOrder_38 n (lastI n (ofL p)) μ := by
    rw [mod_nextOrder.eq_1, bnd.eq_1, bnd.eq_1, h1, wI_id (by omega)]
    exact madv11 H 6 BIG (n - 2) (by omega) (by omega) (by omega) (by omega)
  have hle := fI_le (ofL p) 6 (n - 2)
  rw [e7]
  unfold mod_nextOrder_38
  constructor
  · intro h
    rw [if_neg (by omega)]
  · intro h
    have hle' : lastI n (ofL p) ≤ n - 2 := hle
    have hj1 := fJ_le (ofL p) (lastI n (ofL p)) 6 (n - 1)
    have hj2 := fJ_ge (ofL p) (lastI n (ofL p)) 6 (n - 1) (by omega)
    rw [if_pos (by omega), bnd.eq_1, wI_id (by omega), madv48 H (by omega) 6 BIG (n - 1) (by omega) (by omega) (by omega) (by omega)]
    obtain ⟨μ1, e1, e2, e3⟩ := mswap_eq (i := lastI n (ofL p)) (j := fJ (ofL p) (lastI n (ofL p)) 6 (n - 1)) (by omega) (by omega) H
    obtain ⟨μ2, k1, k2, k3⟩ := madv85 6 BIG (lastI n (ofL p) + 1) (n - 1) μ1 _ (by omega) (by omega) (by omega) (by omega) e3
    refine ⟨μ2, ?_, fun x k h => (k2 x k h).trans (e2 x k h), fun i i1 i2 => ?_⟩
    · rw [m48E.eq_1, e1, Option.bind_some, wI_id (x := n - 1) (by omega), wI_id (by omega), k1]
    · rw [k3 i i1 i2]
      unfold stepL
      rw [ofL_nrm _ _ ⟨i1, i2⟩]; rfl
theorem inL_of {n : Int} {p : List Int} (hn : n ≤ 5) (h : inL n p = true) (i : Int) (h0 : 0 ≤ i ∧ i < n) : 0 ≤ ofL p i ∧ ofL p i < n := by
  unfold inL at h
  have := List.all_eq_true.mp h i.toNat (List.mem_range.mpr (by omega))
  have h2 := of_decide_eq_true this
  rw [show ((i.toNat : Nat) : Int) = i by omega] at h2
  omega
