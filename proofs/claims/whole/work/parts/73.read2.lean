/-- the class's checking loop: all of them good -/
theorem rd54 {μ : Mem} {k lane f n : Int} {w : Nat} (hk : 0 ≤ k ∧ k < 4) (hf : 0 < w → 0 ≤ f ∧ f + 2 * w ≤ 40) (hC : C32 f) (hl : μ 1 9 = μ 61 2) (ht : 0 ≤ μ 62 168 ∧ μ 62 168 ≤ 8) (ht' : μ 1 11 = μ 62 168) (hw8 : w ≤ 8) : ∀ (m g : Nat) (i : Int), m < g → 0 ≤ i → i + m ≤ w → (∀ j : Int, i ≤ j → j < i + m → rdOk μ k f j) → ww_read_54 g k lane f n (w : Int) i μ = ww_read_54 (g - m) k lane f n (w : Int) (i + m) μ := by
  intro m
  induction m with
  | zero => intro g i _ _ _ _; simp
  | succ m ih =>
    intro g i hg h0 hw hb
    obtain ⟨g, rfl⟩ : ∃ z, g = z + 1 := ⟨g - 1, by omega⟩
    have hff := hf (by omega)
    have hi := hb i (by omega) (by omega)
    have e1 : she_cell μ k (wI (f + wI (2 * i))) = some (rdY μ k f i) := by
      rw [wI_id (x := 2 * i) (by omega), wI_id (by omega), cell_eq (by omega)]
      unfold rdY
      rw [show 40 * k + (f + 2 * i) = 40 * k + f + 2 * i by omega]
    have e2 : she_cell μ k (wI (wI (f + wI (2 * i)) + 1)) = some (rdW μ k f i) := by
      rw [wI_id (x := 2 * i) (by omega), wI_id (x := f + 2 * i) (by omega), wI_id (by omega), cell_eq (by omega)]
      unfold rdW
      rw [show 40 * k + (f + 2 * i + 1) = 40 * k + f + 2 * i + 1 by omega]
    rw [ww_read_54.eq_2, if_neg (by omega), e1, Option.bind_some, e2, Option.bind_some, wI_id (x := μ 1 11 + i) (by omega), refuses_eq, hl, ht', if_pos hi.1, if_pos hi.2, Option.bind_some, if_pos rfl, wI_id (by omega), ih g (i + 1) (by omega) (by omega) (by omega) (fun j h1 h2 => hb j (by omega) (by omega)), show g - m = g + 1 - (m + 1) by omega, show i + 1 + (m : Int) = i + ((m + 1 : Nat) : Int) by omega]
theorem rd54_bad {μ : Mem} {k lane f n : Int} {w : Nat} {g : Nat} {i : Int} (hk : 0 ≤ k ∧ k < 4) (hf : 0 ≤ f ∧ f + 2 * w ≤ 40) (hl : μ 1 9 = μ 61 2) (ht : 0 ≤ μ 62 168 ∧ μ 62 168 ≤ 8) (ht' : μ 1 11 = μ 62 168) (h0 : 0 ≤ i ∧ i < w) (hb : ¬ rdOk μ k f i) : ww_read_54 (g + 1) k lane f n (w : Int) i μ = some (-20 - i, μ) := by
  have e1 : she_cell μ k (wI (f + wI (2 * i))) = some (rdY μ k f i) := by
    rw [wI_id (x := 2 * i) (by omega), wI_id (by omega), cell_eq (by omega)]
    unfold rdY
    rw [show 40 * k + (f + 2 * i) = 40 * k + f + 2 * i by omega]
  have e2 : she_cell μ k (wI (wI (f + wI (2 * i)) + 1)) = some (rdW μ k f i) := by
    rw [wI_id (x := 2 * i) (by omega), wI_id (x := f + 2 * i) (by omega), wI_id (by omega), cell_eq (by omega)]
    unfold rdW
    rw [show 40 * k + (f + 2 * i + 1) = 40 * k + f + 2 * i + 1 by omega]
  rw [ww_read_54.eq_2, if_neg (by omega), e1, Option.bind_some, e2, Option.bind_some, wI_id (x := μ 1 11 + i) (by omega), refuses_eq, hl, ht']
  unfold rdOk at hb
  by_cases z : (0 ≤ rdY μ k f i ∧ rdY μ k f i ≤ μ 61 2) ∧ 0 ≤ rdW μ k f i ∧ rdW μ k f i ≤ 2
  · rw [if_pos z, if_neg (fun y => hb ⟨z, y⟩), Option.bind_some, if_neg (by omega), wI_id (by omega)]
  · rw [if_neg z, Option.bind_some, if_neg (by omega), wI_id (by omega)]
/-- the reference's inner loop over a whole pair -/
theorem mrd57_whole {μ : Mem} {K : Int → Int → Int → Int → Int → Int → Int → Int → Mem → Option (Int × Mem)} {k lane f n had wh i : Int} {g : Nat} (hk : 0 ≤ k ∧ k < 4) (hl : μ 85 k.toNat ≠ -4) (hl' : μ 85 k.toNat = lane) (hf : 0 ≤ f ∧ 0 ≤ i ∧ f + 2 * i + 2 ≤ μ 86 k.toNat) (hs : μ 86 k.toNat ≤ 40) : mod_read_57 K (g + 1 + 1 + 1) k lane f n had 0 wh i 0 μ = mod_read_144 K k lane f n had 0 wh i μ := by
  have p : ∀ c : Int, 0 ≤ c → c ≤ 1 → ¬ (lCmp (wL (wL (f + wI (2 * i)) + c)) 0 < 0) ∧ (lCmp (wL (wL (f + wI (2 * i)) + c)) (μ 86 k.toNat) < 0) := fun c h1 h2 => by
    rw [wI_id (x := 2 * i) (by omega), wL_of (x := f + 2 * i) ⟨by omega, by omega⟩, wL_of (x := f + 2 * i + c) ⟨by omega, by omega⟩]
    unfold lCmp
    constructor
    · split
      · omega
      · split <;> omega
    · rw [if_neg (by omega), if_neg (by omega)]; omega
  have st : ∀ (g : Nat) (c : Int), 0 ≤ c → c ≤ 1 → mod_read_57 K (g + 1) k lane f n had 0 wh i c μ = mod_read_57 K g k lane f n had 0 wh i (c + 1) μ := fun g c h1 h2 => by
    rw [mod_read_57.eq_2, if_neg (by omega), if_pos rfl]
    unfold bnd mod_read_136
    dsimp only
    rw [ld_ok (by omega), Option.bind_some, if_neg hl, Option.bind_some, if_pos hl', if_neg (p c h1 h2).1, ld_ok (by omega), Option.bind_some, if_pos (p c h1 h2).2, wI_id (by omega)]
  rw [st _ _ (by omega) (by omega), st _ _ (by omega) (by omega), mod_read_57.eq_2, if_pos (by omega)]
def rsn (μ : Mem) (k lane : Int) : Int := if μ 85 k.toNat = -4 then 1 else if μ 85 k.toNat = lane then 2 else 3
/-- the reference's inner loop over a pair that is not whole -/
theorem mrd57_torn {μ : Mem} {K : Int → Int → Int → Int → Int → Int → Int → Int → Mem → Option (Int × Mem)} {k lane f n had wh i : Int} {g : Nat} (hk : 0 ≤ k ∧ k < 4) (hC : C32 f) (hi : 0 ≤ i ∧ i ≤ 8) (hs' : μ 85 k.toNat ≠ -4 → 0 ≤ μ 86 k.toNat) (hb : μ 85 k.toNat = -4 ∨ μ 85 k.toNat ≠ lane ∨ f < 0 ∧ i = 0 ∨ μ 86 k.toNat < f + 2 * i + 2) : mod_read_57 K (g + 1 + 1 + 1) k lane f n had 0 wh i 0 μ = K k lane f n had (rsn μ k lane) wh (i + 1) μ := by
  have r0 : rsn μ k lane ≠ 0 := by unfold rsn; split; · omega
                                   · split <;> omega
  have fin : ∀ (g : Nat) (c : Int), mod_read_57 K (g + 1) k lane f n had (rsn μ k lane) wh i c μ = K k lane f n had (rsn μ k lane) wh (i + 1) μ := fun g c => by
    rw [mod_read_57.eq_2]
    have h144 : mod_read_144 K k lane f n had (rsn μ k lane) wh i μ = K k lane f n had (rsn μ k lane) wh (i + 1) μ := by
      unfold mod_read_144 mod_read_204
      rw [if_neg r0, wI_id (by omega)]
    rw [if_neg r0, h144]
    split <;> rfl
  by_cases h1 : μ 85 k.toNat = -4
  · have hr : rsn μ k lane = 1 := by unfold rsn; rw [if_pos h1]
    rw [hr] at fin ⊢
    rw [mod_read_57.eq_2, if_neg (by omega), if_pos rfl]
    unfold bnd mod_read_136
    dsimp only
    rw [ld_ok (by omega), Option.bind_some, if_pos h1, wI_id (by omega), fin]
  · by_cases h2 : μ 85 k.toNat = lane
    · have hr : rsn μ k lane = 2 := by unfold rsn; rw [if_neg h1, if_pos h2]
      have hs0 := hs' h1
      have p : ∀ c : Int, 0 ≤ c → c ≤ 1 → (lCmp (wL (wL (f + wI (2 * i)) + c)) 0 < 0) = (f + 2 * i + c < 0) ∧ (lCmp (wL (wL (f + wI (2 * i)) + c)) (μ 86 k.toNat) < 0) = (f + 2 * i + c < μ 86 k.toNat) := fun c h1 h2 => by
        rw [wI_id (x := 2 * i) (by omega), wL_of (x := f + 2 * i) ⟨by omega, by omega⟩, wL_of (x := f + 2 * i + c) ⟨by omega, by omega⟩]
        unfold lCmp
        constructor
        · refine propext ?_
          split
          · omega
          · split <;> omega
        · refine propext ?_
          split
          · omega
          · split <;> omega
      have st : ∀ (g : Nat) (c : Int), 0 ≤ c → c ≤ 1 → mod_read_57 K (g + 1) k lane f n had 0 wh i c μ = if f + 2 * i + c < 0 then mod_read_57 K g k lane f n had 2 wh i (c + 1) μ else if f + 2 * i + c < μ 86 k.toNat then mod_read_57 K g k lane f n had 0 wh i (c + 1) μ else mod_read_57 K g k lane f n had 2 wh i (c + 1) μ := fun g c h3 h4 => by
        rw [mod_read_57.eq_2, if_neg (by omega), if_pos rfl]
        unfold bnd mod_read_136
        dsimp only
        rw [ld_ok (by omega), Option.bind_some, if_neg h1, Option.bind_some, if_pos h2, ld_ok (by omega), Option.bind_some, wI_id (x := c + 1) (by omega)]
        simp only [(p c h3 h4).1, (p c h3 h4).2]
      rw [st _ _ (by omega) (by omega)]
      rw [hr] at fin ⊢
      by_cases a1 : f + 2 * i + 0 < 0
      · rw [if_pos a1, fin]
      · rw [if_neg a1]
        by_cases a2 : f + 2 * i + 0 < μ 86 k.toNat
        · rw [if_pos a2, st _ _ (by omega) (by omega), if_neg (by omega), if_neg (by omega), fin]
        · rw [if_neg a2, fin]
    · have hr : rsn μ k lane = 3 := by unfold rsn; rw [if_neg h1, if_neg h2]
      rw [hr] at fin ⊢
      rw [mod_read_57.eq_2, if_neg (by omega), if_pos rfl]
      unfold bnd mod_read_136
      dsimp only
      rw [ld_ok (by omega), Option.bind_some, if_neg h1, Option.bind_some, if_neg h2, wI_id (by omega), fin]
/-- the reference's loop: all of them good -/
theorem mrd42 {k lane f n had : Int} {w : Nat} (hk : 0 ≤ k ∧ k < 4) (Y W : Int → Int) (hn : n ≤ 8 ∧ (w : Int) ≤ n) (hf : 0 ≤ f) : ∀ (m g : Nat) (i : Int) (μ : Mem), m < g → 0 ≤ i → i + m ≤ w → 0 ≤ μ 62 168 → μ 62 168 + m ≤ 8 → μ 61 2 ≤ 20 → μ 85 k.toNat ≠ -4 → μ 85 k.toNat = lane → f + 2 * w ≤ μ 86 k.toNat → μ 86 k.toNat ≤ 40 → (∀ j : Int, 0 ≤ j → j < w → Y j = μ 87 (40 * k + f + 2 * j).toNat ∧ W j = μ 87 (40 * k + f + 2 * j + 1).toNat) → (∀ j : Int, i ≤ j → j < i + m → (0 ≤ Y j ∧ Y j ≤ μ 61 2) ∧ 0 ≤ W j ∧ W j ≤ 2) → mod_read_42 g k lane f n had 0 i i μ = mod_read_42 (g - m) k lane f n had 0 (i + m) (i + m) (adM Y W m i μ) := by
  intro m
  induction m with
  | zero => intro g i μ _ _ _ _ _ _ _ _ _ _ _ _; simp [adM]
  | succ m ih =>
    intro g i μ hg h0 hw h1 h8 h20 l1 l2 s1 s2 hc hb
    obtain ⟨g, rfl⟩ : ∃ z, g = z + 1 := ⟨g - 1, by omega⟩
    obtain ⟨F, hF⟩ := BIG8
    have hi := hb i (by omega) (by omega)
    have hci := hc i h0 (by omega)
    have ep : wI (wI (wI (40 * k) + f) + wI (2 * i)) = 40 * k + f + 2 * i := by
      rw [wI_id (x := 40 * k) (by omega), wI_id (x := 40 * k + f) (by omega), wI_id (x := 2 * i) (by omega), wI_id (by omega)]
    rw [mod_read_42.eq_2, if_neg (by omega), if_pos rfl, hF, mrd57_whole (g := F + 1 + 1 + 1 + 1 + 1 + 1 + 1) hk l1 l2 (by omega) s2]
    unfold mod_read_144 mod_read_204 bnd
    dsimp only
    rw [if_pos rfl, ep, wI_id (x := 40 * k + f + 2 * i + 1) (by omega), ld_ok (by omega), Option.bind_some, ld_ok (by omega), Option.bind_some, ← hci.1, ← hci.2, mtrack_eq hi.1 hi.2 (by omega), Option.bind_some, if_pos (show 0 ≤ (μ 62 168 + 1, addM μ 0 (μ 62 168) (Y i) (W i)).1 by show 0 ≤ μ 62 168 + 1; omega), wI_id (x := i + 1) (by omega)]
    have q : ∀ a j, a ≠ 62 → addM μ 0 (μ 62 168) (Y i) (W i) a j = μ a j := fun a j h => addM_off _ _ _ _ _ _ (by omega)
    have h := ih g (i + 1) (addM μ 0 (μ 62 168) (Y i) (W i)) (by omega) (by omega) (by omega) (by rw [addM168]; omega) (by rw [addM168]; omega) (by rw [q _ _ (by omega)]; exact h20) (by rw [q _ _ (by omega)]; exact l1) (by rw [q _ _ (by omega)]; exact l2) (by rw [q _ _ (by omega)]; exact s1) (by rw [q _ _ (by omega)]; exact s2) (fun j z1 z2 => by rw [q _ _ (by omega), q _ _ (by omega)]; exact hc j z1 z2) (fun j z1 z2 => by rw [q _ _ (by omega)]; exact hb j (by omega) (by omega))
    rw [h, adM, show g - m = g + 1 - (m + 1) by omega, show i + 1 + (m : Int) = i + ((m + 1 : Nat) : Int) by omega]
theorem mrd42_bad {k lane f n had : Int} {g : Nat} {i : Int} {μ : Mem} (hk : 0 ≤ k ∧ k < 4) (hf : 0 ≤ f) (h0 : 0 ≤ i ∧ i < n ∧ n ≤ 8) (h1 : 0 ≤ μ 62 168 ∧ μ 62 168 ≤ 8) (l1 : μ 85 k.toNat ≠ -4) (l2 : μ 85 k.toNat = lane) (s1 : f + 2 * i + 2 ≤ μ 86 k.toNat) (s2 : μ 86 k.toNat ≤ 40) (hb : ¬ (((0 ≤ μ 87 (40 * k + f + 2 * i).toNat ∧ μ 87 (40 * k + f + 2 * i).toNat ≤ μ 61 2) ∧ 0 ≤ μ 87 (40 * k + f + 2 * i + 1).toNat ∧ μ 87 (40 * k + f + 2 * i + 1).toNat ≤ 2) ∧ μ 62 168 < 8)) : mod_read_42 (g + 1) k lane f n had 0 i i μ = some (-20 - i, mset μ 62 168 had) := by
  obtain ⟨F, hF⟩ := BIG8
  have ep : wI (wI (wI (40 * k) + f) + wI (2 * i)) = 40 * k + f + 2 * i := by
    rw [wI_id (x := 40 * k) (by omega), wI_id (x := 40 * k + f) (by omega), wI_id (x := 2 * i) (by omega), wI_id (by omega)]
  rw [mod_read_42.eq_2, if_neg (by omega), if_pos rfl, hF, mrd57_whole (g := F + 1 + 1 + 1 + 1 + 1 + 1 + 1) hk l1 l2 (by omega) s2]
  unfold mod_read_144 mod_read_204 bnd
  dsimp only
  rw [if_pos rfl, ep, wI_id (x := 40 * k + f + 2 * i + 1) (by omega), ld_ok (by omega), Option.bind_some, ld_ok (by omega), Option.bind_some, wI_id (x := -20 - i) (by omega)]
  by_cases z : (0 ≤ μ 87 (40 * k + f + 2 * i).toNat ∧ μ 87 (40 * k + f + 2 * i).toNat ≤ μ 61 2) ∧ 0 ≤ μ 87 (40 * k + f + 2 * i + 1).toNat ∧ μ 87 (40 * k + f + 2 * i + 1).toNat ≤ 2
  · rw [mtrack_full z.1 z.2 (by have : ¬ μ 62 168 < 8 := fun y => hb ⟨z, y⟩; omega), Option.bind_some, if_neg (show ¬ 0 ≤ ((-3 : Int), μ).1 by show ¬ (0 : Int) ≤ -3; omega)]
  · rw [mtrack_bad z, Option.bind_some, if_neg (show ¬ 0 ≤ ((-1 : Int), μ).1 by show ¬ (0 : Int) ≤ -1; omega)]
theorem mrd42_end {k lane f n had r wh i : Int} {g : Nat} {μ : Mem} (h : n ≤ i ∨ r ≠ 0) : mod_read_42 (g + 1) k lane f n had r wh i μ = some (wh, mset μ 61 39 r) := by
  rw [mod_read_42.eq_2]
  unfold mod_read_210 bnd
  by_cases z : n ≤ i
  · rw [if_pos z]
  · rw [if_neg z, if_neg (h.resolve_left z)]
