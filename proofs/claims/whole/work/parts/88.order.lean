/-! ===== all done? ===== -/
theorem levP_n (R : Rd) (a b : Int) (s : Nat) (k : Int) (h : s ≠ 5) : levP R a b s k = R s k := by unfold levP; rw [if_neg (fun q => h q.1)]
theorem pt_lev (R : Rd) (a b c k : Int) : pt (levP R a b) c k = pt R c k := by unfold pt; rw [levP_n _ _ _ _ _ (by omega)]
theorem Okr.lev {R : Rd} {a b : Int} (H : Okr R) : Okr (levP R a b) := by
  obtain ⟨h1, h2, h3, h4, h5, h6, h7⟩ := H
  refine ⟨by rw [levP_n _ _ _ _ _ (by omega), levP_n _ _ _ _ _ (by omega)]; exact h1, fun i i1 i2 => by rw [levP_n _ _ _ _ _ (by omega)]; exact h2 i i1 i2, fun i i1 i2 => by rw [levP_n _ _ _ _ _ (by omega)]; exact h3 i i1 i2, fun i i1 i2 => by rw [levP_n _ _ _ _ _ (by omega)]; exact h4 i i1 i2, fun i i1 i2 => ?_, fun c c1 c2 => ?_, fun i i1 i2 => by rw [levP_n _ _ _ _ _ (by omega)]; exact h7 i i1 i2⟩
  · have := h5 i i1 i2
    unfold levP
    split <;> omega
  · rw [levP_n _ _ _ _ _ (by omega)] at c2
    simp only [pt_lev]
    rw [levP_n _ _ _ _ _ (by omega)]
    exact h6 c c1 c2
theorem CM.lev {μ : Mem} {R S : Rd} {a b : Int} : CM μ R S ↔ CM μ (levP R a b) S := by
  unfold CM CM0
  rw [levP_n _ _ _ _ _ (by omega)]
def lvM (μ : Mem) (y : Int) : Mem := sdM (sdM (sdM μ (3 * y + 0) 0) (3 * y + 1) 0) (3 * y + 2) 0
theorem level_eq {μ : Mem} {y : Int} (hy : 0 ≤ y ∧ y ≤ 20) : run_level y μ = some (lvM μ y) := by
  obtain ⟨f, hf⟩ := BIG8
  rw [run_level.eq_1, hf, run_level_2.eq_2, if_neg (by omega), rut_eq (by omega), Option.bind_some, setDepth_eq (by omega), Option.bind_some, wI_id (by omega), run_level_2.eq_2, if_neg (by omega), rut_eq (by omega), Option.bind_some, setDepth_eq (by omega), Option.bind_some, wI_id (by omega), run_level_2.eq_2, if_neg (by omega), rut_eq (by omega), Option.bind_some, setDepth_eq (by omega), Option.bind_some, wI_id (by omega), run_level_2.eq_2, if_pos (by omega)]
  rfl
theorem CM.lv {μ : Mem} {R S : Rd} {y : Int} (hy : 0 ≤ y ∧ y ≤ 20) (H : CM μ R S) : CM (lvM μ y) R (uq (uq (uq S 4 (3 * y + 0) 0) 4 (3 * y + 1) 0) 4 (3 * y + 2) 0) := ((H.sd (by omega) (by omega)).sd (by omega) (by omega)).sd (by omega) (by omega)
theorem start_lev (R : Rd) (a : Int) : uq (uq (uq (startP R) 4 (3 * a + 0) 0) 4 (3 * a + 1) 0) 4 (3 * a + 2) 0 = startP (levP R a a) := by
  funext s k
  rw [uq_ap, uq_ap, uq_ap]
  unfold startP
  rw [pt_lev]
  by_cases z : s = 4
  · subst z
    simp only [show ¬ (4 : Nat) = 0 by omega, show ¬ (4 : Nat) = 3 by omega, if_true, if_false, true_and]
    unfold levP
    by_cases y : 3 * a ≤ k ∧ k < 3 * a + 3
    · rw [if_pos (show (5 : Nat) = 5 ∧ (3 * a ≤ k ∧ k < 3 * a + 3 ∨ 3 * a ≤ k ∧ k < 3 * a + 3) from ⟨rfl, Or.inl y⟩)]
      have : k = 3 * a + 0 ∨ k = 3 * a + 1 ∨ k = 3 * a + 2 := by omega
      rcases this with q | q | q
      · rw [if_neg (by omega), if_neg (by omega), if_pos q]
      · rw [if_neg (by omega), if_pos q]
      · rw [if_pos q]
    · rw [if_neg (show ¬ ((5 : Nat) = 5 ∧ (3 * a ≤ k ∧ k < 3 * a + 3 ∨ 3 * a ≤ k ∧ k < 3 * a + 3)) by omega), if_neg (by omega), if_neg (by omega), if_neg (by omega)]
  · rw [if_neg (fun q => z q.1), if_neg (fun q => z q.1), if_neg (fun q => z q.1), if_neg z, if_neg z]
theorem lev_lev (R : Rd) (a b : Int) : levP (levP R a a) b b = levP R a b := by
  funext s k
  unfold levP
  by_cases z : s = 5 ∧ (3 * b ≤ k ∧ k < 3 * b + 3 ∨ 3 * b ≤ k ∧ k < 3 * b + 3)
  · rw [if_pos z, if_pos ⟨z.1, by omega⟩]
  · rw [if_neg z]
    by_cases y : s = 5 ∧ (3 * a ≤ k ∧ k < 3 * a + 3 ∨ 3 * a ≤ k ∧ k < 3 * a + 3)
    · rw [if_pos y, if_pos ⟨y.1, by omega⟩]
    · rw [if_neg y, if_neg (by omega)]
theorem lvM_off {μ : Mem} {y : Int} : Off Crun μ (lvM μ y) := (sdM_off.tr sdM_off).tr sdM_off
theorem sumS_b {R S : Rd} {t : Int} (hV : RV R S t) (hd : allS R S) : ∀ n : Nat, (n : Int) ≤ R 0 1 → 0 ≤ sumS S n ∧ sumS S n ≤ 60 * n := by
  intro n
  induction n with
  | zero => intro _; exact ⟨by show (0 : Int) ≤ 0; omega, by show (0 : Int) ≤ 60 * ((0 : Nat) : Int); omega⟩
  | succ n ih =>
    intro hn
    have h1 := ih (by omega)
    have h2 := (hV.1 n (by omega) (by omega)).2.2.2.2
    have h3 := hd n (by omega) (by omega)
    rw [sumS]
    omega
theorem doneP_y {R : Rd} {p : Int → Int} (h : allS R (runP R p 60)) : doneP R p = sumS (runP R p 60) (R 0 1).toNat := by unfold doneP; rw [if_pos h]
theorem doneP_n {R : Rd} {p : Int → Int} (h : ¬ allS R (runP R p 60)) : doneP R p = -4 := by unfold doneP; rw [if_neg h]
theorem doneP_iff {R : Rd} {p : Int → Int} (hO : Okr R) (hp : inP R p) : doneP R p ≠ -4 ↔ allS R (runP R p 60) := by
  have hb := hO.1
  constructor
  · intro h
    exact Classical.byContradiction (fun q => h (doneP_n q))
  · intro h
    have := sumS_b (RV.run hO hp 60 (by omega)) h (R 0 1).toNat (by omega)
    rw [doneP_y h]; omega
theorem doneP_b {R : Rd} {p : Int → Int} (hO : Okr R) (hp : inP R p) (h : doneP R p ≠ -4) : 0 ≤ doneP R p ∧ doneP R p ≤ 300 := by
  have hb := hO.1
  have h' := (doneP_iff hO hp).mp h
  have := sumS_b (RV.run hO hp 60 (by omega)) h' (R 0 1).toNat (by omega)
  rw [doneP_y h']; omega
theorem csum4 {μ : Mem} {R S : Rd} {t : Int} (hR : RCr μ R) (hO : Okr R) (hV : RV R S t) (hd : allS R S) (h41 : ∀ c : Int, 0 ≤ c → c < R 0 1 → μ 41 c.toNat = S 3 c) : ∀ (m f k : Nat), m < f → (k : Int) + m = R 0 1 → run_sumOfDone_4 μ f (sumS S k) (k : Int) = some (sumS S (R 0 1).toNat) := by
  have hb := hO.1
  intro m
  induction m with
  | zero =>
    intro f k hf hk
    obtain ⟨f, rfl⟩ : ∃ z, f = z + 1 := ⟨f - 1, by omega⟩
    rw [run_sumOfDone_4.eq_2, hR.1.2, if_pos (by omega), show (R 0 1).toNat = k by omega]
  | succ m ih =>
    intro f k hf hk
    obtain ⟨f, rfl⟩ : ∃ z, f = z + 1 := ⟨f - 1, by omega⟩
    have h1 := sumS_b hV hd k (by omega)
    have h2 := (hV.1 k (by omega) (by omega)).2.2.2.2
    have h3 := hd k (by omega) (by omega)
    have nx := ih f (k + 1) (by omega) (by omega)
    rw [sumS] at nx
    rw [run_sumOfDone_4.eq_2, hR.1.2, if_neg (by omega), at_in (by omega), Option.bind_some, bnd.eq_1, h41 k (by omega) (by omega), wI_id (by omega), wI_id (by omega), show (k : Int) + 1 = ((k + 1 : Nat) : Int) by omega, nx]
theorem csum {μ : Mem} {R S : Rd} {t : Int} (hR : RCr μ R) (hO : Okr R) (hV : RV R S t) (hd : allS R S) (h41 : ∀ c : Int, 0 ≤ c → c < R 0 1 → μ 41 c.toNat = S 3 c) : run_sumOfDone μ = some (sumS S (R 0 1).toNat) := by
  have hb := hO.1
  have h := csum4 hR hO hV hd h41 (R 0 1).toNat BIG 0 (by have := BIG_gt; omega) (by omega)
  have e0 : ((0 : Nat) : Int) = 0 := rfl
  rw [e0] at h
  rw [run_sumOfDone.eq_1]
  exact h
/-- which road the levels make -/
def lvR (R : Rd) (x2 x3 : Int) : Rd := if x2 < 0 then R else if x3 < 0 then levP R x2 x2 else levP R x2 x3
theorem allDone_eq {μ : Mem} {R : Rd} {p : Int → Int} {o1 : Nat} {x2 x3 : Int} (ho : 44 ≤ o1) (hR : RC μ 1 R) (hO : Okr R) (hp : inP R p) (hP : OrdM μ (o1 + 1) 5 p) (hs : μ o1 1 = R 0 1) (hx : x2 < 0 ∧ x3 < 0 ∨ 0 ≤ x2 ∧ x2 ≤ 20 ∧ x3 < 0 ∨ 0 ≤ x2 ∧ x2 ≤ 20 ∧ 0 ≤ x3 ∧ x3 ≤ 20) : ∃ d μ', run_allDone o1 x2 x3 μ = some (d, μ') ∧ Off Crun2 μ μ' ∧ (∀ a, 44 ≤ a → μ' a = μ a) ∧ (d = 1 ∧ doneP (lvR R x2 x3) p ≠ -4 ∧ run_sumOfDone μ' = some (doneP (lvR R x2 x3) p) ∨ d = 0 ∧ doneP (lvR R x2 x3) p = -4) := by
  have hb := hO.1
  obtain ⟨μ1, b1, b2, b2', b3, b4, b5, b6, b7⟩ := begin_eq ho hR.r (fun k k1 k2 => hR.2.2.2.2.2.1 k k1 k2) hO hP
  have hR1 : RCr μ1 R := hR.r.off (fun a h1 h2 => b2.cell (fun j => by unfold Crun2; omega))
  -- from the levelled start on
  have fin : ∀ (R' : Rd) (μ2 : Mem), Off Crun μ1 μ2 → Okr R' → RCr μ2 R' → R' 0 1 = R 0 1 → (∀ c k, pt R' c k = pt R c k) → CM μ2 R' (startP R') → ∃ d μ', run_allDone_23 o1 μ2 = some (d, μ') ∧ Off Crun2 μ μ' ∧ (∀ a, 44 ≤ a → μ' a = μ a) ∧ (d = 1 ∧ doneP R' p ≠ -4 ∧ run_sumOfDone μ' = some (doneP R' p) ∨ d = 0 ∧ doneP R' p = -4) := fun R' μ2 q1 q2 q3 q4 q5 q6 => by
    have hp' : inP R' p := fun i i1 i2 => by rw [q4] at i2 ⊢; exact hp i i1 i2
    obtain ⟨d, μ3, k1, k2, k3⟩ := allDone29 (o1 := o1) q2 hp' 60 BIG 0 0 μ2 (by have := BIG_gt; omega) (by omega) q3 (fun i i1 i2 => by rw [q1 _ _ (by unfold Crun; omega)]; exact b5 i i1 (by rw [q4] at i2; omega)) (by rw [q1 _ _ (by unfold Crun; omega), b4, hs, q4]) q6 (by rw [q1 _ _ (by unfold Crun; omega), b6]; omega) (fun c c1 c2 => by rw [q1 _ _ (by unfold Crun; omega), q5]; exact b7 c c1 (by rw [q4] at c2; exact c2)) (Or.inl rfl)
    have e1 : ((0 + 1 : Nat) : Int) = 1 := rfl
    rw [e1] at k1
    refine ⟨d, μ3, by rw [run_allDone_23.eq_1]; exact k1, (b2.tr (q1.mono (fun a j z => z.up))).tr (k2.mono (fun a j z => by unfold Crun1 at z; unfold Crun2; omega)), fun a ha => ?_, ?_⟩
    · funext j
      rw [k2 a j (by unfold Crun1; omega), q1 a j (by unfold Crun; omega), b2' a ha]
    · rcases k3 with ⟨d1, d2, d3⟩ | ⟨d1, d2⟩
      · have hne := (doneP_iff q2 hp').mpr d2
        refine Or.inl ⟨d1, hne, ?_⟩
        rw [doneP_y d2]
        exact csum (q3.keep1 k2) q2 (RV.run q2 hp' 60 (by omega)) d2 d3
      · exact Or.inr ⟨d1, doneP_n d2⟩
  rw [run_allDone.eq_1, b1, Option.bind_some]
  unfold lvR
  by_cases h2 : x2 < 0
  · rw [if_pos h2, if_pos h2, run_allDone_14.eq_1, if_pos (by omega)]
    exact fin R μ1 Off.rf hO hR1 rfl (fun _ _ => rfl) b3
  · rw [if_neg h2, if_neg h2, level_eq (by omega), Option.bind_some, run_allDone_14.eq_1]
    have c1 := b3.lv (y := x2) (by omega)
    rw [start_lev] at c1
    have c2 : CM (lvM μ1 x2) (levP R x2 x2) (startP (levP R x2 x2)) := CM.lev.mp c1
    by_cases h3 : x3 < 0
    · rw [if_pos h3, if_pos h3]
      exact fin (levP R x2 x2) (lvM μ1 x2) lvM_off hO.lev (hR1.keep lvM_off).lev (levP_n _ _ _ _ _ (by omega)) (fun c k => pt_lev _ _ _ _ _) c2
    · rw [if_neg h3, if_neg h3, level_eq (by omega), Option.bind_some]
      have c3 := c2.lv (y := x3) (by omega)
      rw [start_lev, lev_lev] at c3
      have c4 : CM (lvM (lvM μ1 x2) x3) (levP R x2 x3) (startP (levP R x2 x3)) := CM.lev.mp (CM.lev.mpr c3)
      exact fin (levP R x2 x3) (lvM (lvM μ1 x2) x3) (lvM_off.tr lvM_off) hO.lev ((hR1.keep lvM_off).keep lvM_off).lev (levP_n _ _ _ _ _ (by omega)) (fun c k => pt_lev _ _ _ _ _) c4
