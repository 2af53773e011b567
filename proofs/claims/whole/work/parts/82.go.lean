/-! ===== go ===== -/
def mvR (R : Rd) (c l y : Int) : Rd := fun s i => if s = 6 ∧ 7 * l ≤ i ∧ i < 7 * l + 7 then (if i = 7 * l + 4 then y else if i = 7 * l + 6 then 0 else R 6 (7 * c + (i - 7 * l))) else R s i
theorem mvR_n (R : Rd) (c l y : Int) (s : Nat) (i : Int) (h : s ≠ 6) : mvR R c l y s i = R s i := by unfold mvR; rw [if_neg (fun z => h z.1)]
theorem mvR_in (R : Rd) (c l y k : Int) (hk : 0 ≤ k ∧ k < 7) : pt (mvR R c l y) l k = if k = 4 then y else if k = 6 then 0 else pt R c k := by
  unfold pt mvR
  rw [if_pos ⟨rfl, by omega, by omega⟩]
  by_cases h4 : k = 4
  · rw [if_pos (by omega), if_pos h4]
  · rw [if_neg (by omega), if_neg h4]
    by_cases h6 : k = 6
    · rw [if_pos (by omega), if_pos h6]
    · rw [if_neg (by omega), if_neg h6, show 7 * l + k - 7 * l = k by omega]
theorem mvR_out (R : Rd) (c l y i k : Int) (hk : 0 ≤ k ∧ k < 7) (hi : i ≠ l) : pt (mvR R c l y) i k = pt R i k := by
  unfold pt mvR
  rw [if_neg (by omega)]
def mvX (X q : Nat) (μ : Mem) (c l : Nat) (y : Int) : Mem := fun a j => if a = X ∧ q + 7 * l ≤ j ∧ j < q + 7 * l + 7 then (if j = q + 7 * l + 4 then y else if j = q + 7 * l + 6 then 0 else μ X (q + 7 * c + (j - (q + 7 * l)))) else μ a j
theorem mvX_off {X q : Nat} {μ : Mem} {c l : Nat} {y : Int} {a j : Nat} (h : ¬ (a = X ∧ q + 7 * l ≤ j ∧ j < q + 7 * l + 7)) : mvX X q μ c l y a j = μ a j := by unfold mvX; rw [if_neg h]
theorem mvX_row {X q : Nat} {μ : Mem} {R : Rd} {c l : Nat} {y i n : Int} (hc : (c : Int) * 7 + 7 ≤ n) (H : ∀ i : Int, 0 ≤ i → i < n → μ X (q + i.toNat) = R 6 i) (h1 : 0 ≤ i) (h2 : i < n) : mvX X q μ c l y X (q + i.toNat) = mvR R c l y 6 i := by
  unfold mvX mvR
  by_cases z : 7 * (l : Int) ≤ i ∧ i < 7 * l + 7
  · rw [if_pos (show X = X ∧ q + 7 * l ≤ q + i.toNat ∧ q + i.toNat < q + 7 * l + 7 from ⟨rfl, by omega, by omega⟩), if_pos (show (6 : Nat) = 6 ∧ 7 * (l : Int) ≤ i ∧ i < 7 * l + 7 from ⟨rfl, z⟩)]
    by_cases h4 : i = 7 * l + 4
    · rw [if_pos (show q + i.toNat = q + 7 * l + 4 by omega), if_pos h4]
    · rw [if_neg (show ¬ q + i.toNat = q + 7 * l + 4 by omega), if_neg h4]
      by_cases h6 : i = 7 * l + 6
      · rw [if_pos (show q + i.toNat = q + 7 * l + 6 by omega), if_pos h6]
      · rw [if_neg (show ¬ q + i.toNat = q + 7 * l + 6 by omega), if_neg h6, ← H (7 * c + (i - 7 * l)) (by omega) (by omega)]
        congr 1; omega
  · rw [if_neg (show ¬ (X = X ∧ q + 7 * l ≤ q + i.toNat ∧ q + i.toNat < q + 7 * l + 7) by omega), if_neg (fun q => z q.2)]
    exact H i h1 h2
theorem RC.mv {μ : Mem} {R : Rd} {c l : Nat} {y : Int} (hc : (c : Int) < R 0 1) (H : RC μ 1 R) : RC (mvX 6 0 μ c l y) 1 (mvR R c l y) := by
  obtain ⟨⟨a1, a2, a3⟩, b, c', ⟨bb, b1, b2, b3⟩, e, f, g, h7, ⟨ff, f1, f2, f3⟩, h9⟩ := H
  refine ⟨⟨by rw [mvX_off (by omega), mvR_n _ _ _ _ _ _ (by omega)]; exact a1, by rw [mvX_off (by omega), mvR_n _ _ _ _ _ _ (by omega)]; exact a2, by rw [mvX_off (by omega), mvR_n _ _ _ _ _ _ (by omega)]; exact a3⟩,
    fun j h1 h2 => by rw [mvX_off (by omega), mvR_n _ _ _ _ _ _ (by omega)]; exact b j h1 h2,
    fun j h1 h2 => by rw [mvX_off (by omega), mvR_n _ _ _ _ _ _ (by omega)]; exact c' j h1 h2,
    ⟨bb, by rw [mvX_off (by omega)]; exact b1, b2, fun j hj => by rw [mvR_n _ _ _ _ _ _ (by omega)]; exact b3 j hj⟩,
    fun j h1 h2 => by rw [mvX_off (by omega), mvR_n _ _ _ _ _ _ (by omega)]; exact e j h1 h2,
    fun j h1 h2 => by rw [mvX_off (by omega), mvR_n _ _ _ _ _ _ (by omega)]; exact f j h1 h2,
    fun j h1 h2 => ?_,
    fun j h1 h2 => by rw [mvX_off (by omega), mvR_n _ _ _ _ _ _ (by omega)]; exact h7 j h1 h2,
    ⟨ff, by rw [mvX_off (by omega)]; exact f1, f2, fun j hj => by rw [mvR_n _ _ _ _ _ _ (by omega)]; exact f3 j hj⟩,
    fun j h1 h2 => ?_⟩
  · rw [mvR_n _ _ _ _ _ _ (by omega)] at h2
    have h := mvX_row (X := 6) (q := 0) (μ := μ) (R := R) (c := c) (l := l) (y := y) (i := j) (n := 7 * R 0 1) (by omega) (fun i i1 i2 => by rw [Nat.zero_add]; exact g i i1 i2) h1 h2
    rw [Nat.zero_add] at h
    exact h
  · rw [mvR_n _ _ _ _ _ _ (by omega)] at h2
    rw [mvX_off (by omega), mvR_n _ _ _ _ _ _ (by omega), mvR_n _ _ _ _ _ _ (by omega)]; exact h9 j h1 h2
theorem MC.mv {μ : Mem} {R : Rd} {c l : Nat} {y : Int} (hc : c < 5) (hl : l < 5) (hn : 0 ≤ R 0 2 ∧ R 0 2 ≤ 8) (H : MC μ 0 R) : MC (mvX 62 1 μ c l y) 0 (mvR R c l y) := by
  obtain ⟨⟨a1, a2, a3⟩, b, c', d, e, f, g, h7, h8, h9⟩ := H
  refine ⟨⟨by rw [mvX_off (by omega), mvR_n _ _ _ _ _ _ (by omega)]; exact a1, by rw [mvX_off (by omega), mvR_n _ _ _ _ _ _ (by omega)]; exact a2, by rw [mvX_off (by omega), mvR_n _ _ _ _ _ _ (by omega)]; exact a3⟩,
    fun j h1 h2 => by rw [mvX_off (by omega), mvR_n _ _ _ _ _ _ (by omega)]; exact b j h1 h2,
    fun j h1 h2 => by rw [mvX_off (by omega), mvR_n _ _ _ _ _ _ (by omega)]; exact c' j h1 h2,
    fun j h1 h2 => by rw [mvX_off (by omega), mvR_n _ _ _ _ _ _ (by omega)]; exact d j h1 h2,
    fun j h1 h2 => by rw [mvX_off (by omega), mvR_n _ _ _ _ _ _ (by omega)]; exact e j h1 h2,
    fun j h1 h2 => by rw [mvX_off (by omega), mvR_n _ _ _ _ _ _ (by omega)]; exact f j h1 h2,
    fun j h1 h2 => ?_,
    fun j h1 h2 => by rw [mvX_off (by omega), mvR_n _ _ _ _ _ _ (by omega)]; exact h7 j h1 h2,
    fun j h1 h2 => by rw [mvX_off (by omega), mvR_n _ _ _ _ _ _ (by omega)]; exact h8 j h1 h2,
    fun j h1 h2 => ?_⟩
  · have h := mvX_row (X := 62) (q := 1) (μ := μ) (R := R) (c := c) (l := l) (y := y) (i := j) (n := 35) (by omega) (fun i i1 i2 => by rw [← g i i1 i2, Nat.zero_add]) h1 h2
    rw [Nat.zero_add]
    exact h
  · rw [mvR_n _ _ _ _ _ _ (by omega)] at h2
    rw [mvX_off (by omega), mvX_off (by omega), mvR_n _ _ _ _ _ _ (by omega), mvR_n _ _ _ _ _ _ (by omega)]; exact h9 j h1 h2
theorem moveCart_2 (c l : Nat) (hc : c < 5) (hl : l ≤ c) : ∀ (f k : Nat) (μ : Mem), k ≤ 7 → 7 - k < f → roa_moveCart_2 1 f (c : Int) (l : Int) (k : Int) μ = some (fun a j => if a = 6 ∧ 7 * l + k ≤ j ∧ j < 7 * l + 7 then μ 6 (7 * c + (j - 7 * l)) else μ a j) := by
  intro f
  induction f with
  | zero => intro k μ h1 h2; omega
  | succ f ih =>
    intro k μ h1 h2
    rw [roa_moveCart_2.eq_2]
    by_cases h : (7 : Int) ≤ k
    · rw [if_pos h]
      congr 1
      funext a j
      rw [if_neg (by omega)]
    · rw [if_neg h, part_eq (by omega), Option.bind_some, swapPart_eq (by omega), Option.bind_some, wI_id (by omega), show (k : Int) + 1 = ((k + 1 : Nat) : Int) by omega, ih (k + 1) _ (by omega) (by omega)]
      congr 1
      funext a j
      dsimp only
      rw [show (7 * (c : Int) + k).toNat = 7 * c + k by omega, show (7 * (l : Int) + k).toNat = 7 * l + k by omega, show 1 + 5 = 6 from rfl]
      by_cases z1 : a = 6 ∧ 7 * l + (k + 1) ≤ j ∧ j < 7 * l + 7
      · rw [if_pos z1, if_pos (by omega), mset_ne (by omega)]
      · rw [if_neg z1, mset_ap]
        by_cases z2 : a = 6 ∧ j = 7 * l + k
        · rw [if_pos z2, if_pos (by omega), z2.2, show 7 * l + k - 7 * l = k by omega]
        · rw [if_neg z2, if_neg (by omega)]
theorem cmove_eq {μ : Mem} {c l : Nat} {y : Int} (hc : c < 5) (hl : l ≤ c) (hy : ∀ μ' : Mem, μ' 38 c = μ 38 c → ww_at 38 5 μ' (c : Int) = some y) : ((roa_moveCart 1 (c : Int) (l : Int) μ).bind fun μ4 => (ww_at 38 5 μ4 (c : Int)).bind fun u5 => (roa_swapPart 1 (l : Int) 4 u5 μ4).bind fun u6 => (roa_swapPart 1 (l : Int) 6 0 u6.2).bind fun u7 => some u7.2) = some (mvX 6 0 μ c l y) := by
  have h := moveCart_2 c l hc hl BIG 0 μ (by omega) (by have := BIG_gt; omega)
  have e0 : ((0 : Nat) : Int) = 0 := rfl
  rw [e0] at h
  unfold roa_moveCart
  rw [h, Option.bind_some, hy _ (by rw [if_neg (by omega)]), Option.bind_some, swapPart_eq (by omega), Option.bind_some, swapPart_eq (by omega), Option.bind_some]
  congr 1
  funext a j
  unfold mvX
  dsimp only
  rw [show (7 * (l : Int) + 4).toNat = 7 * l + 4 by omega, show (7 * (l : Int) + 6).toNat = 7 * l + 6 by omega, show 1 + 5 = 6 from rfl, mset_ap, mset_ap]
  by_cases z6 : a = 6 ∧ j = 7 * l + 6
  · rw [if_pos z6, if_pos (by omega), if_neg (by omega), if_pos (by omega)]
  · rw [if_neg z6]
    by_cases z4 : a = 6 ∧ j = 7 * l + 4
    · rw [if_pos z4, if_pos (by omega), if_pos (by omega)]
    · rw [if_neg z4]
      by_cases z : a = 6 ∧ 7 * l ≤ j ∧ j < 7 * l + 7
      · rw [if_pos (by omega), if_pos (by omega), if_neg (by omega), if_neg (by omega)]
        congr 1; omega
      · rw [if_neg (by omega), if_neg (by omega)]
theorem mgo50 {K : Int → Int → Mem → Option (Int × Mem)} (c l : Nat) (hc : c < 5) (hl : l ≤ c) (y : Int) : ∀ (f k : Nat) (μ : Mem), k ≤ 7 → 7 - k < f → μ 75 c = y → mod_go_50 K f (l : Int) (c : Int) (k : Int) μ = K ((l : Int) + 1) (c : Int) (fun a j => if a = 62 ∧ j = 1 + 7 * l + 4 then y else if a = 62 ∧ j = 1 + 7 * l + 6 then 0 else if a = 62 ∧ 1 + 7 * l + k ≤ j ∧ j < 1 + 7 * l + 7 then μ 62 (1 + 7 * c + (j - (1 + 7 * l))) else μ a j) := by
  intro f
  induction f with
  | zero => intro k μ h1 h2; omega
  | succ f ih =>
    intro k μ h1 h2 hy
    rw [mod_go_50.eq_2]
    by_cases h : (7 : Int) ≤ k
    · rw [if_pos h, ld_ok (by omega), Option.bind_some, Int.toNat_natCast, hy, wI_id (x := 7 * (l : Int)) (by omega), wI_id (x := 1 + 7 * (l : Int)) (by omega), wI_id (x := 1 + 7 * (l : Int) + 4) (by omega), wI_id (x := 1 + 7 * (l : Int) + 6) (by omega), stx_ok (by omega), Option.bind_some, stx_ok (by omega), Option.bind_some, wI_id (by omega)]
      congr 1
      funext a j
      rw [show (1 + 7 * (l : Int) + 4).toNat = 1 + 7 * l + 4 by omega, show (1 + 7 * (l : Int) + 6).toNat = 1 + 7 * l + 6 by omega, mset_ap, mset_ap]
      by_cases z6 : a = 62 ∧ j = 1 + 7 * l + 6
      · rw [if_pos z6, if_neg (by omega), if_pos z6]
      · rw [if_neg z6]
        by_cases z4 : a = 62 ∧ j = 1 + 7 * l + 4
        · rw [if_pos z4, if_pos z4]
        · rw [if_neg z4, if_neg z4, if_neg z6, if_neg (by omega)]
    · rw [if_neg h, wI_id (x := 7 * (c : Int)) (by omega), wI_id (x := 1 + 7 * (c : Int)) (by omega), wI_id (x := 1 + 7 * (c : Int) + k) (by omega), ld_ok (by omega), Option.bind_some, wI_id (x := 7 * (l : Int)) (by omega), wI_id (x := 1 + 7 * (l : Int)) (by omega), wI_id (x := 1 + 7 * (l : Int) + k) (by omega), stx_ok (by omega), Option.bind_some, wI_id (by omega), show (k : Int) + 1 = ((k + 1 : Nat) : Int) by omega, ih (k + 1) _ (by omega) (by omega) (by rw [mset_off (by omega)]; exact hy)]
      congr 1
      funext a j
      rw [show (1 + 7 * (c : Int) + k).toNat = 1 + 7 * c + k by omega, show (1 + 7 * (l : Int) + k).toNat = 1 + 7 * l + k by omega]
      by_cases z4 : a = 62 ∧ j = 1 + 7 * l + 4
      · rw [if_pos z4, if_pos z4]
      · rw [if_neg z4, if_neg z4]
        by_cases z6 : a = 62 ∧ j = 1 + 7 * l + 6
        · rw [if_pos z6, if_pos z6]
        · rw [if_neg z6, if_neg z6]
          by_cases z1 : a = 62 ∧ 1 + 7 * l + (k + 1) ≤ j ∧ j < 1 + 7 * l + 7
          · rw [if_pos z1, if_pos (by omega), mset_ne (by omega)]
          · rw [if_neg z1, mset_ap]
            by_cases z2 : a = 62 ∧ j = 1 + 7 * l + k
            · rw [if_pos z2, if_pos (by omega), z2.2, show 1 + 7 * l + k - (1 + 7 * l) = k by omega]
            · rw [if_neg z2, if_neg (by omega)]
theorem mgo50_eq {K : Int → Int → Mem → Option (Int × Mem)} {c l : Nat} (hc : c < 5) (hl : l ≤ c) {y : Int} {μ : Mem} (hy : μ 75 c = y) : mod_go_50 K BIG (l : Int) (c : Int) 0 μ = K ((l : Int) + 1) (c : Int) (mvX 62 1 μ c l y) := by
  have h := mgo50 (K := K) c l hc hl y BIG 0 μ (by omega) (by have := BIG_gt; omega) hy
  have e0 : ((0 : Nat) : Int) = 0 := rfl
  rw [e0] at h
  rw [h]
  congr 1
  funext a j
  unfold mvX
  by_cases z4 : a = 62 ∧ j = 1 + 7 * l + 4
  · rw [if_pos z4, if_pos (by omega), if_pos (by omega)]
  · rw [if_neg z4]
    by_cases z6 : a = 62 ∧ j = 1 + 7 * l + 6
    · rw [if_pos z6, if_pos (by omega), if_neg (by omega), if_pos (by omega)]
    · rw [if_neg z6]
      by_cases z : a = 62 ∧ 1 + 7 * l ≤ j ∧ j < 1 + 7 * l + 7
      · rw [if_pos (by omega), if_pos (by omega), if_neg (by omega), if_neg (by omega)]
      · rw [if_neg (by omega), if_neg (by omega)]
/-- carts that are left, one by one -/
def goR (S : Rd) : Nat → Nat → Nat → Rd → Rd × Nat
  | 0, _, l, R => (R, l)
  | m + 1, c, l, R => if S 3 (c : Int) = -4 then goR S m (c + 1) (l + 1) (mvR R c l (S 0 (c : Int))) else goR S m (c + 1) l R
def partOk (R : Rd) (c : Int) : Prop := (0 ≤ pt R c 0 ∧ pt R c 0 ≤ 4) ∧ (0 ≤ pt R c 1 ∧ pt R c 1 ≤ 2) ∧ (1 ≤ pt R c 2 ∧ pt R c 2 ≤ 9) ∧ (0 ≤ pt R c 3 ∧ pt R c 3 ≤ 30) ∧ (0 ≤ pt R c 4 ∧ pt R c 4 ≤ R 0 0) ∧ (0 ≤ pt R c 5 ∧ pt R c 5 ≤ R 0 0) ∧ pt R c 4 ≠ pt R c 5 ∧ (0 ≤ pt R c 6 ∧ pt R c 6 ≤ 20)
theorem goR_ok {R0 S : Rd} {t : Int} {n : Nat} (hn : (n : Int) = R0 0 1) (hV : RV R0 S t) (hP : ∀ c : Int, 0 ≤ c → c < n → partOk R0 c) : ∀ (m c l : Nat) (R : Rd), c + m = n → l ≤ c → (∀ s i, s ≠ 6 → R s i = R0 s i) → (∀ i k : Int, (c : Int) ≤ i → i < n → 0 ≤ k → k < 7 → pt R i k = pt R0 i k) → (∀ i : Int, 0 ≤ i → i < l → partOk R i) → (∀ s i, s ≠ 6 → (goR S m c l R).1 s i = R0 s i) ∧ (goR S m c l R).2 ≤ n ∧ (∀ i : Int, 0 ≤ i → i < (goR S m c l R).2 → partOk (goR S m c l R).1 i) := by
  intro m
  induction m with
  | zero =>
    intro c l R hc hl hs _ hp
    exact ⟨hs, by show l ≤ n; omega, hp⟩
  | succ m ih =>
    intro c l R hc hl hs hq hp
    rw [goR]
    by_cases z : S 3 (c : Int) = -4
    · rw [if_pos z]
      refine ih (c + 1) (l + 1) _ (by omega) (by omega) (fun s i h => by rw [mvR_n _ _ _ _ _ _ h]; exact hs s i h) (fun i k h1 h2 h3 h4 => ?_) (fun i h1 h2 => ?_)
      · rw [mvR_out _ _ _ _ _ _ ⟨h3, h4⟩ (by omega)]; exact hq i k (by omega) h2 h3 h4
      · have h00 : mvR R c l (S 0 (c : Int)) 0 0 = R 0 0 := mvR_n _ _ _ _ _ _ (by omega)
        by_cases y : i = (l : Int)
        · subst y
          have hpc := hP c (by omega) (by omega)
          have hv := hV.1 c (by omega) (by omega)
          have hne := hv.2.2.2.1.mp z
          unfold partOk at hpc ⊢
          rw [mvR_in _ _ _ _ _ (by omega), mvR_in _ _ _ _ _ (by omega), mvR_in _ _ _ _ _ (by omega), mvR_in _ _ _ _ _ (by omega), mvR_in _ _ _ _ _ (by omega), mvR_in _ _ _ _ _ (by omega), mvR_in _ _ _ _ _ (by omega), h00, hs 0 0 (by omega), hq c 0 (by omega) (by omega) (by omega) (by omega), hq c 1 (by omega) (by omega) (by omega) (by omega), hq c 2 (by omega) (by omega) (by omega) (by omega), hq c 3 (by omega) (by omega) (by omega) (by omega), hq c 4 (by omega) (by omega) (by omega) (by omega), hq c 5 (by omega) (by omega) (by omega) (by omega), hq c 6 (by omega) (by omega) (by omega) (by omega)]
          simp
          omega
        · have := hp i h1 (by omega)
          unfold partOk at this ⊢
          rw [mvR_out _ _ _ _ _ _ (by omega) y, mvR_out _ _ _ _ _ _ (by omega) y, mvR_out _ _ _ _ _ _ (by omega) y, mvR_out _ _ _ _ _ _ (by omega) y, mvR_out _ _ _ _ _ _ (by omega) y, mvR_out _ _ _ _ _ _ (by omega) y, mvR_out _ _ _ _ _ _ (by omega) y, h00]
          exact this
    · rw [if_neg z]
      exact ih (c + 1) l R (by omega) (by omega) hs (fun i k h1 h2 => hq i k (by omega) h2) hp
theorem cgo51 {S : Rd} {n : Nat} (hn5 : n ≤ 5) (hS3 : ∀ c : Int, 0 ≤ c → c < n → S 3 c = -4 ∨ 1 ≤ S 3 c) : ∀ (m f c l : Nat) (μ : Mem) (R : Rd), m < f → c + m = n → l ≤ c → R 0 1 = n → RC μ 1 R → (∀ i : Int, 0 ≤ i → i < n → μ 41 i.toNat = dn0 (S 3 i) ∧ μ 38 i.toNat = S 0 i) → ∃ μ', ww_go_51 f (l : Int) (c : Int) μ = some (((goR S m c l R).2 : Int), pdM (mset μ' 1 10 ((goR S m c l R).2 : Int))) ∧ RC μ' 1 (goR S m c l R).1 ∧ (∀ a, a ≠ 6 → μ' a = μ a) := by
  intro m
  induction m with
  | zero =>
    intro f c l μ R hf hc hl hR1 hR hr
    obtain ⟨f, rfl⟩ : ∃ g, f = g + 1 := ⟨f - 1, by omega⟩
    refine ⟨μ, ?_, hR, fun a _ => rfl⟩
    rw [ww_go_51.eq_2, hR.1.2.1, if_pos (by omega), bnd.eq_1, drop_eq, Option.bind_some]
    rfl
  | succ m ih =>
    intro f c l μ R hf hc hl hR1 hR hr
    obtain ⟨f, rfl⟩ : ∃ g, f = g + 1 := ⟨f - 1, by omega⟩
    have hrc := hr c (by omega) (by omega)
    rw [Int.toNat_natCast] at hrc
    have h3 := hS3 c (by omega) (by omega)
    have hd : run_isDone μ (c : Int) = some (if S 3 (c : Int) = -4 then 0 else 1) := by
      unfold run_isDone dn0 at *
      rw [at_in (by omega), Option.bind_some, Int.toNat_natCast, hrc.1]
      by_cases z : S 3 (c : Int) = -4
      · rw [if_pos z, if_pos z, if_pos (by omega)]
      · rw [if_neg z, if_neg z, if_neg (by omega)]
    rw [ww_go_51.eq_2, hR.1.2.1, if_neg (by omega), hd, Option.bind_some, goR]
    unfold ww_go_118
    rw [wI_id (x := (c : Int) + 1) (by omega), wI_id (x := (l : Int) + 1) (by omega), show (c : Int) + 1 = ((c + 1 : Nat) : Int) by omega, show (l : Int) + 1 = ((l + 1 : Nat) : Int) by omega]
    by_cases z : S 3 (c : Int) = -4
    · rw [if_pos z, if_pos z, if_pos rfl]
      have hm := cmove_eq (μ := μ) (c := c) (l := l) (y := S 0 (c : Int)) (by omega) hl (fun μ' h => by rw [at_in (by omega), Int.toNat_natCast, h, hrc.2])
      obtain ⟨μ', g1, g2, g3⟩ := ih f (c + 1) (l + 1) (mvX 6 0 μ c l (S 0 (c : Int))) (mvR R c l (S 0 (c : Int))) (by omega) (by omega) (by omega) (by rw [mvR_n _ _ _ _ _ _ (by omega)]; exact hR1) (hR.mv (by omega)) (fun i i1 i2 => by rw [mvX_off (by omega), mvX_off (by omega)]; exact hr i i1 i2)
      refine ⟨μ', ?_, g2, fun a ha => by rw [g3 a ha]; funext j; rw [mvX_off (by omega)]⟩
      rw [← g1]
      have hb : ∀ {A : Type} (o : Option A) (P : A → Option Mem) (Q : A → Option (Int × Mem)) (K : Mem → Option (Int × Mem)) (x : Mem), (∀ a, Q a = (P a).bind K) → o.bind P = some x → o.bind Q = K x := fun o P Q K x h1 h2 => by
        cases o with
        | none => cases h2
        | some a => rw [Option.bind_some] at h2 ⊢; rw [h1, h2, Option.bind_some]
      refine hb _ _ _ (fun x => ww_go_51 f ((l + 1 : Nat) : Int) ((c + 1 : Nat) : Int) x) _ (fun a => ?_) hm
      cases ww_at 38 5 a (c : Int) with
      | none => rfl
      | some u =>
        rw [Option.bind_some, Option.bind_some]
        cases roa_swapPart 1 (l : Int) 4 u a with
        | none => rfl
        | some v =>
          rw [Option.bind_some, Option.bind_some]
          cases roa_swapPart 1 (l : Int) 6 0 v.2 with
          | none => rfl
          | some w => rfl
    · rw [if_neg z, if_neg z, if_neg (by omega)]
      exact ih f (c + 1) l μ R (by omega) (by omega) (by omega) hR1 hR hr
theorem mgo22 {R0 S : Rd} {n : Nat} (hn5 : n ≤ 5) (hT : 0 ≤ R0 0 2 ∧ R0 0 2 ≤ 8) (hS3 : ∀ c : Int, 0 ≤ c → c < n → (S 3 c = -4 ↔ S 0 c ≠ pt R0 c 5)) : ∀ (m f c l : Nat) (μ : Mem) (R : Rd), m < f → c + m = n → l ≤ c → R 0 1 = n → R 0 2 = R0 0 2 → (∀ i : Int, (c : Int) ≤ i → i < n → pt R i 5 = pt R0 i 5) → MC μ 0 R → (∀ i : Int, 0 ≤ i → i < n → μ 75 i.toNat = S 0 i) → ∃ μ', mod_go_22 f (l : Int) (c : Int) μ = mod_go_143 BIG ((goR S m c l R).2 : Int) 0 (mset μ' 62 0 ((goR S m c l R).2 : Int)) ∧ MC μ' 0 (goR S m c l R).1 ∧ (∀ a j, ¬ (a = 62 ∧ j < 36) → μ' a j = μ a j) := by
  intro m
  induction m with
  | zero =>
    intro f c l μ R hf hc hl hR1 hR2 hg hR hr
    obtain ⟨f, rfl⟩ : ∃ g, f = g + 1 := ⟨f - 1, by omega⟩
    refine ⟨μ, ?_, hR, fun a j _ => rfl⟩
    rw [mod_go_22.eq_2, hR.1.2.1, if_pos (by omega), bnd.eq_1]
    rfl
  | succ m ih =>
    intro f c l μ R hf hc hl hR1 hR2 hg hR hr
    obtain ⟨f, rfl⟩ : ∃ g, f = g + 1 := ⟨f - 1, by omega⟩
    have hrc := hr c (by omega) (by omega)
    rw [Int.toNat_natCast] at hrc
    have h3 := hS3 c (by omega) (by omega)
    have h5 : mod_of μ (c : Int) 5 = some (pt R0 c 5) := by
      rw [of_eq (by omega), hR.2.2.2.2.2.2.1 _ (by omega) (by omega), ← hg c (by omega) (by omega)]; rfl
    rw [mod_go_22.eq_2, hR.1.2.1, if_neg (by omega), ld_ok (by omega), Option.bind_some, Int.toNat_natCast, hrc, h5, Option.bind_some, goR]
    by_cases z : S 3 (c : Int) = -4
    · have z' := h3.mp z
      rw [if_pos z, if_neg z', mgo50_eq (y := S 0 (c : Int)) (by omega) hl hrc]
      unfold mod_go_128
      rw [wI_id (x := (c : Int) + 1) (by omega), show (c : Int) + 1 = ((c + 1 : Nat) : Int) by omega, show (l : Int) + 1 = ((l + 1 : Nat) : Int) by omega]
      obtain ⟨μ', g1, g2, g3⟩ := ih f (c + 1) (l + 1) (mvX 62 1 μ c l (S 0 (c : Int))) (mvR R c l (S 0 (c : Int))) (by omega) (by omega) (by omega) (by rw [mvR_n _ _ _ _ _ _ (by omega)]; exact hR1) (by rw [mvR_n _ _ _ _ _ _ (by omega)]; exact hR2) (fun i i1 i2 => by rw [mvR_out _ _ _ _ _ _ (by omega) (by omega)]; exact hg i (by omega) i2) (hR.mv (by omega) (by omega) (by omega)) (fun i i1 i2 => by rw [mvX_off (by omega)]; exact hr i i1 i2)
      exact ⟨μ', g1, g2, fun a j n => by rw [g3 a j n, mvX_off (by omega)]⟩
    · have z' : S 0 (c : Int) = pt R0 c 5 := Decidable.byContradiction (fun q => z (h3.mpr q))
      rw [if_neg z, if_pos z']
      unfold mod_go_128
      rw [wI_id (x := (c : Int) + 1) (by omega), show (c : Int) + 1 = ((c + 1 : Nat) : Int) by omega]
      exact ih f (c + 1) l μ R (by omega) (by omega) (by omega) hR1 hR2 (fun i i1 i2 => hg i (by omega) i2) hR hr
