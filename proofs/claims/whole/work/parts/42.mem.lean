theorem wI_id {x : Int} (h : -2147483648 ≤ x ∧ x < 2147483648) : wI x = x := wI_of ⟨h.1, h.2⟩
theorem stx_ok {μ : Mem} {a n : Nat} {i x : Int} (h : 0 ≤ i ∧ i < (n : Int)) : stx μ a n i x = some (mset μ a i.toNat x) := if_pos h
theorem ld_ok {μ : Mem} {a n : Nat} {i : Int} (h : 0 ≤ i ∧ i < (n : Int)) : ld μ a n i = some (μ a i.toNat) := if_pos h
theorem zN_0 : zN 0 = 0 := by decide
theorem zN_1 : zN 1 = 1 := by decide
theorem BIG_gt : 4294967296 < BIG := by decide
def wipeM (μ : Mem) (a n : Nat) (v : Int) : Mem := fun k j => if k = a ∧ j < n then v else μ k j
theorem ww_wipe_2_eq (a n : Nat) (hn : n < 2147483647) (v : Int) : ∀ (f i : Nat) (μ : Mem), i ≤ n → n - i < f → ww_wipe_2 a n f v (i : Int) μ = some (fun k j => if k = a ∧ i ≤ j ∧ j < n then v else μ k j) := by
  intro f
  induction f with
  | zero => intro i μ h1 h2; omega
  | succ f ih =>
    intro i μ h1 h2
    rw [ww_wipe_2.eq_2]
    by_cases h : (n : Int) ≤ i
    · rw [if_pos h]
      congr 1
      funext k j
      rw [if_neg (by omega)]
    · rw [if_neg h, stx_ok (by omega), Option.bind_some, wI_id (by omega)]
      rw [show ((i : Int) + 1) = ((i + 1 : Nat) : Int) by omega, ih (i + 1) _ (by omega) (by omega)]
      congr 1
      funext k j
      simp only [mset, Int.toNat_natCast]
      by_cases hk : k = a <;> by_cases hj : j = i <;> simp [hk, hj] <;> grind
theorem ww_wipe_eq (a n : Nat) (hn : n < 2147483647) (v : Int) (μ : Mem) : ww_wipe a n v μ = some (wipeM μ a n v) := by
  unfold ww_wipe wipeM
  have h := ww_wipe_2_eq a n hn v BIG 0 μ (by omega) (by have := BIG_gt; omega)
  simpa using h
def rstM (μ : Mem) (r : Nat) : Mem := mset (mset (mset (mset (mset (wipeM (wipeM (wipeM (wipeM (wipeM μ (r + 1) 21 (-4)) (r + 2) 21 (-4)) (r + 3) 63 0) (r + 4) 63 0) (r + 6) 8 0) r 7 0) r 8 0) r 9 10) r 10 0) r 11 0
theorem roa_reset_eq (r : Nat) (μ : Mem) : roa_reset r μ = some (rstM μ r) := by
  unfold roa_reset rstM bnd
  rw [ww_wipe_eq _ _ (by decide), Option.bind_some, ww_wipe_eq _ _ (by decide), Option.bind_some, ww_wipe_eq _ _ (by decide), Option.bind_some, ww_wipe_eq _ _ (by decide), Option.bind_some, ww_wipe_eq _ _ (by decide), Option.bind_some]
theorem fd_55 (k24 : Int → Mem → Option Mem) (y : Nat) (hy : y < 21) : ∀ (f w : Nat) (μ : Mem), w ≤ 3 → 3 - w < f → mod_firstDraft_55 k24 f (y : Int) (w : Int) μ = k24 ((y : Int) + 1) (fun k j => if (k = 72 ∨ k = 73) ∧ 3 * y + w ≤ j ∧ j < 3 * y + 3 then 0 else μ k j) := by
  intro f
  induction f with
  | zero => intro w μ h1 h2; omega
  | succ f ih =>
    intro w μ h1 h2
    rw [mod_firstDraft_55.eq_2]
    by_cases h : (3 : Int) ≤ w
    · rw [if_pos h, wI_id (by omega)]
      congr 1
      funext k j
      rw [if_neg (by omega)]
    · rw [if_neg h, wI_id (x := 3 * (y : Int)) (by omega), wI_id (x := 3 * (y : Int) + w) (by omega), stx_ok (by omega), Option.bind_some, stx_ok (by omega), Option.bind_some, wI_id (by omega), zN_0]
      rw [show ((w : Int) + 1) = ((w + 1 : Nat) : Int) by omega, ih (w + 1) _ (by omega) (by omega)]
      congr 1
      funext k j
      simp only [mset, show (3 * (y : Int) + (w : Int)).toNat = 3 * y + w by omega]
      clear ih
      grind
def fdE (y : Nat) (μ : Mem) : Mem := fun k j => if k = 69 ∧ y ≤ j ∧ j < 21 then 0 else if (k = 70 ∨ k = 71) ∧ y ≤ j ∧ j < 21 then -4 else if (k = 72 ∨ k = 73) ∧ 3 * y ≤ j ∧ j < 63 then 0 else if k = 61 ∧ j = 8 then 10 else if k = 61 ∧ (j = 14 ∨ j = 15) then 0 else if k = 61 ∧ j = 16 then -4 else μ k j
theorem fd_24 : ∀ (f y : Nat) (μ : Mem), y ≤ 21 → 21 - y < f → mod_firstDraft_24 f (y : Int) μ = some (fdE y μ) := by
  intro f
  induction f with
  | zero => intro y μ h1 h2; omega
  | succ f ih =>
    intro y μ h1 h2
    rw [mod_firstDraft_24.eq_2]
    by_cases h : (21 : Int) ≤ y
    · rw [if_pos h]
      unfold bnd fdE
      dsimp only
      refine congrArg some (funext fun k => funext fun j => ?_)
      simp only [mset]
      clear ih
      grind (splits := 40)
    · rw [if_neg h, stx_ok (by omega), Option.bind_some, stx_ok (by omega), Option.bind_some, stx_ok (by omega), Option.bind_some, zN_0]
      have h0 := fd_55 (mod_firstDraft_24 f) y (by omega) BIG 0 (mset (mset (mset μ 69 (y : Int).toNat 0) 70 (y : Int).toNat (-4)) 71 (y : Int).toNat (-4)) (by omega) (by have := BIG_gt; omega)
      rw [show ((0 : Nat) : Int) = 0 by rfl] at h0
      rw [h0, show ((y : Int) + 1) = ((y + 1 : Nat) : Int) by omega, ih (y + 1) _ (by omega) (by omega)]
      unfold fdE
      refine congrArg some (funext fun k => funext fun j => ?_)
      simp only [mset, Int.toNat_natCast]
      clear ih h0
      grind (splits := 40)
def fdM (μ : Mem) : Mem := fdE 0 (wipeM μ 68 185 0)
theorem fd_2 : ∀ (f i : Nat) (μ : Mem), i ≤ 185 → 185 - i < f → mod_firstDraft_2 f (i : Int) μ = some (fdE 0 (fun k j => if k = 68 ∧ i ≤ j ∧ j < 185 then 0 else μ k j)) := by
  intro f
  induction f with
  | zero => intro i μ h1 h2; omega
  | succ f ih =>
    intro i μ h1 h2
    rw [mod_firstDraft_2.eq_2]
    by_cases h : (185 : Int) ≤ i
    · rw [if_pos h]
      have h0 := fd_24 BIG 0 μ (by omega) (by have := BIG_gt; omega)
      rw [show ((0 : Nat) : Int) = 0 by rfl] at h0
      rw [h0]
      refine congrArg (fun z => some (fdE 0 z)) (funext fun k => funext fun j => ?_)
      rw [if_neg (by omega)]
    · rw [if_neg h, stx_ok (by omega), Option.bind_some, wI_id (by omega)]
      rw [show ((i : Int) + 1) = ((i + 1 : Nat) : Int) by omega, ih (i + 1) _ (by omega) (by omega)]
      refine congrArg (fun z => some (fdE 0 z)) (funext fun k => funext fun j => ?_)
      simp only [mset, Int.toNat_natCast]
      clear ih
      grind
theorem mod_firstDraft_eq (μ : Mem) : mod_firstDraft μ = some (fdM μ) := by
  unfold mod_firstDraft fdM wipeM
  have h := fd_2 BIG 0 μ (by omega) (by have := BIG_gt; omega)
  simpa using h
theorem kd_81 (k37 : Int → Mem → Option Mem) (y : Nat) (hy : y < 21) : ∀ (f w : Nat) (μ : Mem), w ≤ 3 → 3 - w < f → mod_keepDraft_81 k37 f (y : Int) (w : Int) μ = k37 ((y : Int) + 1) (fun k j => if k = 67 ∧ 3 * y + w ≤ j ∧ j < 3 * y + 3 then μ 72 j else μ k j) := by
  intro f
  induction f with
  | zero => intro w μ h1 h2; omega
  | succ f ih =>
    intro w μ h1 h2
    rw [mod_keepDraft_81.eq_2]
    by_cases h : (3 : Int) ≤ w
    · rw [if_pos h, wI_id (by omega)]
      congr 1
      funext k j
      rw [if_neg (by omega)]
    · rw [if_neg h, wI_id (x := 3 * (y : Int)) (by omega), wI_id (x := 3 * (y : Int) + w) (by omega), ld_ok (by omega), Option.bind_some, stx_ok (by omega), Option.bind_some, wI_id (by omega)]
      rw [show ((w : Int) + 1) = ((w + 1 : Nat) : Int) by omega, ih (w + 1) _ (by omega) (by omega)]
      congr 1
      funext k j
      simp only [mset, show (3 * (y : Int) + (w : Int)).toNat = 3 * y + w by omega]
      clear ih
      grind
def kdE (y : Nat) (μ : Mem) : Mem := fun k j => if k = 64 ∧ y ≤ j ∧ j < 21 then zN (μ 69 j) else if k = 65 ∧ y ≤ j ∧ j < 21 then μ 70 j else if k = 66 ∧ y ≤ j ∧ j < 21 then μ 71 j else if k = 67 ∧ 3 * y ≤ j ∧ j < 63 then μ 72 j else if k = 63 ∧ j < 2 then 0 else μ k j
theorem kd_37 : ∀ (f y : Nat) (μ : Mem), y ≤ 21 → 21 - y < f → mod_keepDraft_37 f (y : Int) μ = some (kdE y μ) := by
  intro f
  induction f with
  | zero => intro y μ h1 h2; omega
  | succ f ih =>
    intro y μ h1 h2
    rw [mod_keepDraft_37.eq_2]
    by_cases h : (21 : Int) ≤ y
    · rw [if_pos h, zN_0]
      unfold bnd kdE
      dsimp only
      refine congrArg some (funext fun k => funext fun j => ?_)
      simp only [mset]
      clear ih
      grind (splits := 40)
    · rw [if_neg h, ld_ok (by omega), Option.bind_some, stx_ok (by omega), Option.bind_some, ld_ok (by omega), Option.bind_some, stx_ok (by omega), Option.bind_some, ld_ok (by omega), Option.bind_some, stx_ok (by omega), Option.bind_some]
      have h0 := fun μ => kd_81 (mod_keepDraft_37 f) y (by omega) BIG 0 μ (by omega) (by have := BIG_gt; omega)
      rw [show ((0 : Nat) : Int) = 0 by rfl] at h0
      rw [h0, show ((y : Int) + 1) = ((y + 1 : Nat) : Int) by omega, ih (y + 1) _ (by omega) (by omega)]
      unfold kdE
      refine congrArg some (funext fun k => funext fun j => ?_)
      simp only [mset, Int.toNat_natCast]
      clear ih h0
      grind (splits := 40)
def kdM (μ : Mem) : Mem := kdE 0 (mset (fun k j => if k = 62 ∧ j < 185 then μ 68 j else μ k j) 61 2 (μ 61 8))
theorem kd_2 : ∀ (f i : Nat) (μ : Mem), i ≤ 185 → 185 - i < f → mod_keepDraft_2 f (i : Int) μ = some (kdE 0 (mset (fun k j => if k = 62 ∧ i ≤ j ∧ j < 185 then μ 68 j else μ k j) 61 2 (μ 61 8))) := by
  intro f
  induction f with
  | zero => intro i μ h1 h2; omega
  | succ f ih =>
    intro i μ h1 h2
    rw [mod_keepDraft_2.eq_2]
    by_cases h : (185 : Int) ≤ i
    · rw [if_pos h]
      unfold bnd
      dsimp only
      have h0 := fun μ => kd_37 BIG 0 μ (by omega) (by have := BIG_gt; omega)
      rw [show ((0 : Nat) : Int) = 0 by rfl] at h0
      rw [h0]
      refine congrArg (fun z => some (kdE 0 (mset z 61 2 (μ 61 8)))) (funext fun k => funext fun j => ?_)
      rw [if_neg (by omega)]
    · rw [if_neg h, ld_ok (by omega), Option.bind_some, stx_ok (by omega), Option.bind_some, wI_id (by omega)]
      rw [show ((i : Int) + 1) = ((i + 1 : Nat) : Int) by omega, ih (i + 1) _ (by omega) (by omega)]
      refine congrArg (fun z => some (kdE 0 z)) (funext fun k => funext fun j => ?_)
      simp only [mset, Int.toNat_natCast]
      clear ih
      grind (splits := 40)
theorem mod_keepDraft_eq (μ : Mem) : mod_keepDraft μ = some (kdM μ) := by
  unfold mod_keepDraft kdM
  have h := kd_2 BIG 0 μ (by omega) (by have := BIG_gt; omega)
  simpa using h
theorem fd0_55 (k24 : Int → Mem → Option Mem) (y : Nat) (hy : y < 21) : ∀ (f w : Nat) (μ : Mem), w ≤ 3 → 3 - w < f → mod_firstDraft0_55 k24 f (y : Int) (w : Int) μ = k24 ((y : Int) + 1) (fun k j => if (k = 11 ∨ k = 12) ∧ 3 * y + w ≤ j ∧ j < 3 * y + 3 then 0 else μ k j) := by
  intro f
  induction f with
  | zero => intro w μ h1 h2; omega
  | succ f ih =>
    intro w μ h1 h2
    rw [mod_firstDraft0_55.eq_2]
    by_cases h : (3 : Int) ≤ w
    · rw [if_pos h, wI_id (by omega)]
      congr 1
      funext k j
      rw [if_neg (by omega)]
    · rw [if_neg h, wI_id (x := 3 * (y : Int)) (by omega), wI_id (x := 3 * (y : Int) + w) (by omega), stx_ok (by omega), Option.bind_some, stx_ok (by omega), Option.bind_some, wI_id (by omega), zN_0]
      rw [show ((w : Int) + 1) = ((w + 1 : Nat) : Int) by omega, ih (w + 1) _ (by omega) (by omega)]
      congr 1
      funext k j
      simp only [mset, show (3 * (y : Int) + (w : Int)).toNat = 3 * y + w by omega]
      clear ih
      grind
def fdE0 (y : Nat) (μ : Mem) : Mem := fun k j => if k = 8 ∧ y ≤ j ∧ j < 21 then 0 else if (k = 9 ∨ k = 10) ∧ y ≤ j ∧ j < 21 then -4 else if (k = 11 ∨ k = 12) ∧ 3 * y ≤ j ∧ j < 63 then 0 else if k = 0 ∧ j = 8 then 10 else if k = 0 ∧ (j = 14 ∨ j = 15) then 0 else if k = 0 ∧ j = 16 then -4 else μ k j
theorem fd0_24 : ∀ (f y : Nat) (μ : Mem), y ≤ 21 → 21 - y < f → mod_firstDraft0_24 f (y : Int) μ = some (fdE0 y μ) := by
  intro f
  induction f with
  | zero => intro y μ h1 h2; omega
  | succ f ih =>
    intro y μ h1 h2
    rw [mod_firstDraft0_24.eq_2]
    by_cases h : (21 : Int) ≤ y
    · rw [if_pos h]
      unfold bnd fdE0
      dsimp only
      refine congrArg some (funext fun k => funext fun j => ?_)
      simp only [mset]
      clear ih
      grind (splits := 40)
    · rw [if_neg h, stx_ok (by omega), Option.bind_some, stx_ok (by omega), Option.bind_some, stx_ok (by omega), Option.bind_some, zN_0]
      have h0 := fd0_55 (mod_firstDraft0_24 f) y (by omega) BIG 0 (mset (mset (mset μ 8 (y : Int).toNat 0) 9 (y : Int).toNat (-4)) 10 (y : Int).toNat (-4)) (by omega) (by have := BIG_gt; omega)
      rw [show ((0 : Nat) : Int) = 0 by rfl] at h0
      rw [h0, show ((y : Int) + 1) = ((y + 1 : Nat) : Int) by omega, ih (y + 1) _ (by omega) (by omega)]
      unfold fdE0
      refine congrArg some (funext fun k => funext fun j => ?_)
      simp only [mset, Int.toNat_natCast]
      clear ih h0
      grind (splits := 40)
def fdM0 (μ : Mem) : Mem := fdE0 0 (wipeM μ 7 185 0)
theorem fd0_2 : ∀ (f i : Nat) (μ : Mem), i ≤ 185 → 185 - i < f → mod_firstDraft0_2 f (i : Int) μ = some (fdE0 0 (fun k j => if k = 7 ∧ i ≤ j ∧ j < 185 then 0 else μ k j)) := by
  intro f
  induction f with
  | zero => intro i μ h1 h2; omega
  | succ f ih =>
    intro i μ h1 h2
    rw [mod_firstDraft0_2.eq_2]
    by_cases h : (185 : Int) ≤ i
    · rw [if_pos h]
      have h0 := fd0_24 BIG 0 μ (by omega) (by have := BIG_gt; omega)
      rw [show ((0 : Nat) : Int) = 0 by rfl] at h0
      rw [h0]
      refine congrArg (fun z => some (fdE0 0 z)) (funext fun k => funext fun j => ?_)
      rw [if_neg (by omega)]
    · rw [if_neg h, stx_ok (by omega), Option.bind_some, wI_id (by omega)]
      rw [show ((i : Int) + 1) = ((i + 1 : Nat) : Int) by omega, ih (i + 1) _ (by omega) (by omega)]
      refine congrArg (fun z => some (fdE0 0 z)) (funext fun k => funext fun j => ?_)
      simp only [mset, Int.toNat_natCast]
      clear ih
      grind
theorem mod_firstDraft0_eq (μ : Mem) : mod_firstDraft0 μ = some (fdM0 μ) := by
  unfold mod_firstDraft0 fdM0 wipeM
  have h := fd0_2 BIG 0 μ (by omega) (by have := BIG_gt; omega)
  simpa using h
theorem kd0_81 (k37 : Int → Mem → Option Mem) (y : Nat) (hy : y < 21) : ∀ (f w : Nat) (μ : Mem), w ≤ 3 → 3 - w < f → mod_keepDraft0_81 k37 f (y : Int) (w : Int) μ = k37 ((y : Int) + 1) (fun k j => if k = 6 ∧ 3 * y + w ≤ j ∧ j < 3 * y + 3 then μ 11 j else μ k j) := by
  intro f
  induction f with
  | zero => intro w μ h1 h2; omega
  | succ f ih =>
    intro w μ h1 h2
    rw [mod_keepDraft0_81.eq_2]
    by_cases h : (3 : Int) ≤ w
    · rw [if_pos h, wI_id (by omega)]
      congr 1
      funext k j
      rw [if_neg (by omega)]
    · rw [if_neg h, wI_id (x := 3 * (y : Int)) (by omega), wI_id (x := 3 * (y : Int) + w) (by omega), ld_ok (by omega), Option.bind_some, stx_ok (by omega), Option.bind_some, wI_id (by omega)]
      rw [show ((w : Int) + 1) = ((w + 1 : Nat) : Int) by omega, ih (w + 1) _ (by omega) (by omega)]
      congr 1
      funext k j
      simp only [mset, show (3 * (y : Int) + (w : Int)).toNat = 3 * y + w by omega]
      clear ih
      grind
def kdE0 (y : Nat) (μ : Mem) : Mem := fun k j => if k = 3 ∧ y ≤ j ∧ j < 21 then zN (μ 8 j) else if k = 4 ∧ y ≤ j ∧ j < 21 then μ 9 j else if k = 5 ∧ y ≤ j ∧ j < 21 then μ 10 j else if k = 6 ∧ 3 * y ≤ j ∧ j < 63 then μ 11 j else if k = 2 ∧ j < 2 then 0 else μ k j
theorem kd0_37 : ∀ (f y : Nat) (μ : Mem), y ≤ 21 → 21 - y < f → mod_keepDraft0_37 f (y : Int) μ = some (kdE0 y μ) := by
  intro f
  induction f with
  | zero => intro y μ h1 h2; omega
  | succ f ih =>
    intro y μ h1 h2
    rw [mod_keepDraft0_37.eq_2]
    by_cases h : (21 : Int) ≤ y
    · rw [if_pos h, zN_0]
      unfold bnd kdE0
      dsimp only
      refine congrArg some (funext fun k => funext fun j => ?_)
      simp only [mset]
      clear ih
      grind (splits := 40)
    · rw [if_neg h, ld_ok (by omega), Option.bind_some, stx_ok (by omega), Option.bind_some, ld_ok (by omega), Option.bind_some, stx_ok (by omega), Option.bind_some, ld_ok (by omega), Option.bind_some, stx_ok (by omega), Option.bind_some]
      have h0 := fun μ => kd0_81 (mod_keepDraft0_37 f) y (by omega) BIG 0 μ (by omega) (by have := BIG_gt; omega)
      rw [show ((0 : Nat) : Int) = 0 by rfl] at h0
      rw [h0, show ((y : Int) + 1) = ((y + 1 : Nat) : Int) by omega, ih (y + 1) _ (by omega) (by omega)]
      unfold kdE0
      refine congrArg some (funext fun k => funext fun j => ?_)
      simp only [mset, Int.toNat_natCast]
      clear ih h0
      grind (splits := 40)
def kdM0 (μ : Mem) : Mem := kdE0 0 (mset (fun k j => if k = 1 ∧ j < 185 then μ 7 j else μ k j) 0 2 (μ 0 8))
theorem kd0_2 : ∀ (f i : Nat) (μ : Mem), i ≤ 185 → 185 - i < f → mod_keepDraft0_2 f (i : Int) μ = some (kdE0 0 (mset (fun k j => if k = 1 ∧ i ≤ j ∧ j < 185 then μ 7 j else μ k j) 0 2 (μ 0 8))) := by
  intro f
  induction f with
  | zero => intro i μ h1 h2; omega
  | succ f ih =>
    intro i μ h1 h2
    rw [mod_keepDraft0_2.eq_2]
    by_cases h : (185 : Int) ≤ i
    · rw [if_pos h]
      unfold bnd
      dsimp only
      have h0 := fun μ => kd0_37 BIG 0 μ (by omega) (by have := BIG_gt; omega)
      rw [show ((0 : Nat) : Int) = 0 by rfl] at h0
      rw [h0]
      refine congrArg (fun z => some (kdE0 0 (mset z 0 2 (μ 0 8)))) (funext fun k => funext fun j => ?_)
      rw [if_neg (by omega)]
    · rw [if_neg h, ld_ok (by omega), Option.bind_some, stx_ok (by omega), Option.bind_some, wI_id (by omega)]
      rw [show ((i : Int) + 1) = ((i + 1 : Nat) : Int) by omega, ih (i + 1) _ (by omega) (by omega)]
      refine congrArg (fun z => some (kdE0 0 z)) (funext fun k => funext fun j => ?_)
      simp only [mset, Int.toNat_natCast]
      clear ih
      grind (splits := 40)
theorem mod_keepDraft0_eq (μ : Mem) : mod_keepDraft0 μ = some (kdM0 μ) := by
  unfold mod_keepDraft0 kdM0
  have h := kd0_2 BIG 0 μ (by omega) (by have := BIG_gt; omega)
  simpa using h
def zMem : Mem := fun _ _ => 0
def rMem : Mem := rstM zMem 0
def lan (i : Nat) : Int := if i = 3 then -4 else if i = 2 then -4 else if i = 1 then -4 else if i = 0 then -4 else 0
theorem lanes_eq : (upd (upd (upd (upd (fun _ => 0) 0 (-4)) 1 (-4)) 2 (-4)) 3 (-4)) = fun i => Int32.ofInt (lan i) := by
  funext i
  unfold lan upd
  split
  · rfl
  · split
    · rfl
    · split
      · rfl
      · split <;> rfl
def aMem : Mem := fun k i => if k = 24 then lan i else 0
def bMem : Mem := fdM0 aMem
def mMem : Mem := kdM0 bMem
theorem rst_sp (l : Launch) (G : Nv) : Sp l G SRs mX4_reset [vR 0] zMem (fun r μ' => (r, μ') = (none, rMem)) := roa_reset_sp (r := 0) ⟨rfl, rfl, rfl, rfl, rfl, rfl, rfl, rfl⟩ zMem rMem (roa_reset_eq 0 zMem)
theorem fd_sp (l : Launch) (G : Nv) : Sp l G SM mX9_firstDraft [vR 0] aMem (fun r μ' => (r, μ') = (none, bMem)) := mod_firstDraft0_sp aMem bMem (mod_firstDraft0_eq aMem)
theorem kd_sp (l : Launch) (G : Nv) : Sp l G SM mX9_keepDraft [vR 0] bMem (fun r μ' => (r, μ') = (none, mMem)) := mod_keepDraft0_sp bMem mMem (mod_keepDraft0_eq bMem)
theorem ok_small {Sh : Shp} {μ : Mem} (h : ∀ k i, -4 ≤ μ k i ∧ μ k i ≤ 10) : okMem Sh μ := fun k e _ i => by
  have := h k i
  split
  · exact ⟨by omega, by omega⟩
  · exact ⟨by omega, by omega⟩
theorem okZ : okMem SRs zMem := ok_small (fun k i => by unfold zMem; omega)
theorem aMem_b (k i : Nat) : -4 ≤ aMem k i ∧ aMem k i ≤ 10 := by unfold aMem lan; grind
theorem okA : okMem SM aMem := ok_small aMem_b
theorem bMem_b (k i : Nat) : -4 ≤ bMem k i ∧ bMem k i ≤ 10 := by
  have := aMem_b k i
  unfold bMem fdM0 fdE0 wipeM; grind
theorem okB : okMem SM bMem := ok_small bMem_b
