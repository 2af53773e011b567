/-! ===== when a run stands still ===== -/
theorem move_ng {R S : Rd} {h c : Int} (n : ¬ goesP R S h c) (s : Nat) (i : Int) (hs : s = 0 ∨ s = 3 ∨ s = 4 ∨ s = 6) : moveP R h c S s i = S s i := by
  unfold moveP
  rw [if_neg n]
  by_cases a : actsP R S h c
  · rw [if_pos a]
    unfold waitP
    rw [uq_ap, if_neg (by omega), uq_ap, if_neg (by omega)]
  · rw [if_neg a]
theorem move_step {R S : Rd} {h c : Int} (g : goesP R S h c) : moveP R h c S 6 0 = S 6 0 + 1 := by
  unfold moveP
  rw [if_pos g]
  unfold entP
  rw [uq_ap, if_pos ⟨rfl, rfl⟩]
theorem goes_core {R S S' : Rd} {h h' c : Int} (h0 : ∀ i, S' 0 i = S 0 i) (h4 : ∀ i, S' 4 i = S 4 i) (hp : h' % 2 = h % 2) (hs : pt R c 6 < h') (g : goesP R S h c) : goesP R S' h' c := by
  have hn : nxt R S' c = nxt R S c := by unfold nxt; rw [h0]
  obtain ⟨⟨a1, a2, a3⟩, b, d⟩ := g
  refine ⟨⟨by rw [h0]; exact a1, hs, by rw [hp]; exact a3⟩, ?_, ?_⟩
  · unfold opensP at b ⊢
    rw [hn, h4]; exact b
  · intro o o1 o2
    rw [h0, hn]
    exact d o o1 o2
theorem row_mono (R : Rd) (h : Int) (p : Int → Int) (S : Rd) : ∀ k : Nat, S 6 0 ≤ rowP R h p k S 6 0 := by
  intro k
  induction k with
  | zero => show S 6 0 ≤ S 6 0; omega
  | succ k ih =>
    rw [rowP]
    by_cases g : goesP R (rowP R h p k S) h (p k)
    · rw [move_step g]; omega
    · rw [move_ng g 6 0 (by omega)]; exact ih
theorem row_quiet {R : Rd} {h : Int} {p : Int → Int} {S : Rd} : ∀ k : Nat, rowP R h p k S 6 0 = S 6 0 → (∀ j : Nat, j < k → ¬ goesP R S h (p j)) ∧ ∀ (s : Nat) (i : Int), s = 0 ∨ s = 3 ∨ s = 4 → rowP R h p k S s i = S s i := by
  intro k
  induction k with
  | zero => intro _; exact ⟨fun j hj => by omega, fun _ _ _ => rfl⟩
  | succ k ih =>
    intro hk
    have hm := row_mono R h p S k
    rw [rowP] at hk
    by_cases g : goesP R (rowP R h p k S) h (p k)
    · rw [move_step g] at hk; omega
    · rw [move_ng g 6 0 (by omega)] at hk
      obtain ⟨i1, i2⟩ := ih hk
      refine ⟨fun j hj => ?_, fun s i hs => ?_⟩
      · by_cases z : j = k
        · subst z
          exact fun q => g (goes_core (fun i => i2 0 i (by omega)) (fun i => i2 4 i (by omega)) rfl q.1.2.1 q)
        · exact i1 j (by omega)
      · rw [rowP, move_ng g s i (by omega)]
        exact i2 s i hs
theorem row_still {R : Rd} {h : Int} {p : Int → Int} {S : Rd} {n : Nat} (hg : ∀ j : Nat, j < n → ¬ goesP R S h (p j)) : ∀ k : Nat, k ≤ n → ∀ (s : Nat) (i : Int), s = 0 ∨ s = 3 ∨ s = 4 → rowP R h p k S s i = S s i := by
  intro k
  induction k with
  | zero => intro _ s i _; rfl
  | succ k ih =>
    intro hk s i hs
    have i2 := ih (by omega)
    have g : ¬ goesP R (rowP R h p k S) h (p k) := fun q => hg k (by omega) (goes_core (fun i => (i2 0 i (by omega)).symm) (fun i => (i2 4 i (by omega)).symm) rfl q.1.2.1 q)
    rw [rowP, move_ng g s i (by omega)]
    exact i2 s i hs
theorem hour_s {R : Rd} {h : Int} {p : Int → Int} {S : Rd} (hf : R 8 h ≠ 1) (s : Nat) (i : Int) : hourP R p h S s i = rowP R h p (R 0 1).toNat (uq S 5 0 0) s i := by
  unfold hourP
  rw [thaw_ap, if_neg (fun q => hf q.1)]
/-- an hour in which nobody goes, and behind which neither start nor frost comes -/
def quietP (R : Rd) (p : Int → Int) (h : Nat) : Prop := 1 ≤ h ∧ (∀ c : Int, 0 ≤ c → c < R 0 1 → pt R c 6 < h) ∧ (∀ k : Int, (h : Int) ≤ k → k ≤ 60 → R 8 k ≠ 1) ∧ runP R p h 6 0 = runP R p (h - 1) 6 0
theorem quiet_core {R : Rd} {p : Int → Int} {h : Nat} (hh : h ≤ 60) (q : quietP R p h) : (∀ j : Nat, (j : Int) < R 0 1 → ¬ goesP R (runP R p (h - 1)) h (p j)) ∧ ∀ (s : Nat) (i : Int), s = 0 ∨ s = 3 ∨ s = 4 → runP R p h s i = runP R p (h - 1) s i := by
  obtain ⟨h1, h2, h3, h4⟩ := q
  obtain ⟨g, rfl⟩ : ∃ g, h = g + 1 := ⟨h - 1, by omega⟩
  rw [Nat.add_sub_cancel] at h4 ⊢
  have hf := h3 ((g + 1 : Nat) : Int) (by omega) (by omega)
  have e : ∀ (s : Nat) (i : Int), runP R p (g + 1) s i = rowP R ((g + 1 : Nat) : Int) p (R 0 1).toNat (uq (runP R p g) 5 0 0) s i := fun s i => by rw [runP, hour_s hf]
  rw [e] at h4
  have h4' : rowP R ((g + 1 : Nat) : Int) p (R 0 1).toNat (uq (runP R p g) 5 0 0) 6 0 = uq (runP R p g) 5 0 0 6 0 := by rw [h4, uq_ap, if_neg (by omega)]
  obtain ⟨r1, r2⟩ := row_quiet _ h4'
  refine ⟨fun j hj q => r1 j (by omega) (goes_core (fun i => by rw [uq_ap, if_neg (by omega)]) (fun i => by rw [uq_ap, if_neg (by omega)]) rfl q.1.2.1 q), fun s i hs => ?_⟩
  rw [e, r2 s i hs, uq_ap, if_neg (by omega)]
theorem stuck_core {R : Rd} {p : Int → Int} {h : Nat} (hp : inP R p) (hh : h + 1 ≤ 60) (q1 : quietP R p h) (q2 : quietP R p (h + 1)) : ∀ m : Nat, h + 1 + m ≤ 60 → ∀ (s : Nat) (i : Int), s = 0 ∨ s = 3 ∨ s = 4 → runP R p (h + 1 + m) s i = runP R p (h + 1) s i := by
  obtain ⟨a1, a2⟩ := quiet_core (by omega) q1
  obtain ⟨b1, b2⟩ := quiet_core hh q2
  rw [Nat.add_sub_cancel] at b1 b2
  have h1 := q1.1
  -- nobody goes at any later hour
  have st : ∀ (j : Nat) (k : Int), (j : Int) < R 0 1 → (h : Int) ≤ k → ¬ goesP R (runP R p (h + 1)) k (p j) := fun j k hj hk g => by
    have hpj := hp j (by omega) hj
    by_cases z : k % 2 = ((h + 1 : Nat) : Int) % 2
    · exact b1 j hj (goes_core (S := runP R p (h + 1)) (fun i => (b2 0 i (by omega)).symm) (fun i => (b2 4 i (by omega)).symm) z.symm (q2.2.1 _ hpj.1 hpj.2) g)
    · exact a1 j hj (goes_core (S := runP R p (h + 1)) (fun i => by rw [b2 0 i (by omega), a2 0 i (by omega)]) (fun i => by rw [b2 4 i (by omega), a2 4 i (by omega)]) (by omega) (q1.2.1 _ hpj.1 hpj.2) g)
  intro m
  induction m with
  | zero => intro _ s i _; rfl
  | succ m ih =>
    intro hm s i hs
    have ih := ih (by omega)
    have hf := q1.2.2.1 ((h + 1 + m + 1 : Nat) : Int) (by omega) (by omega)
    rw [show h + 1 + (m + 1) = (h + 1 + m) + 1 by omega, runP, hour_s hf]
    rw [row_still (n := (R 0 1).toNat) (fun j hj g => ?_) _ (Nat.le_refl _) s i hs, uq_ap, if_neg (by omega)]
    · exact ih s i hs
    · exact st j ((h + 1 + m + 1 : Nat) : Int) (by omega) (by omega) (goes_core (S := uq (runP R p (h + 1 + m)) 5 0 0) (fun i => by rw [uq_ap, if_neg (by omega), ih 0 i (by omega)]) (fun i => by rw [uq_ap, if_neg (by omega), ih 4 i (by omega)]) rfl g.1.2.1 g)
/-- all done: their hours stay -/
theorem done_stays {R : Rd} {p : Int → Int} (hO : Okr R) (hp : inP R p) {h : Nat} (hd : allS R (runP R p h)) : ∀ m : Nat, h + m ≤ 60 → ∀ i : Int, runP R p (h + m) 3 i = runP R p h 3 i := by
  intro m
  induction m with
  | zero => intro _ i; rfl
  | succ m ih =>
    intro hm i
    have ih := ih (by omega)
    have hV := RV.run hO hp (h + m) (by omega)
    have hV' := hV.w (v := 0)
    have hb := hO.1
    have hd' : ∀ c : Int, 0 ≤ c → c < R 0 1 → rowP R ((h + m + 1 : Nat) : Int) p 0 (uq (runP R p (h + m)) 5 0 0) 3 c ≠ -4 := fun c c1 c2 => by
      show uq (runP R p (h + m)) 5 0 0 3 c ≠ -4
      rw [uq_ap, if_neg (by omega), ih]; exact hd c c1 c2
    have e := row_done (h := ((h + m + 1 : Nat) : Int)) hO hp (by omega) (by omega) hV' (i := 0) (by omega) hd' (R 0 1).toNat (by omega)
    rw [show h + (m + 1) = (h + m) + 1 by omega, runP]
    unfold hourP
    rw [thaw_n _ _ _ 3 _ (by omega)]
    rw [Nat.zero_add] at e
    rw [e]
    show uq (runP R p (h + m)) 5 0 0 3 i = _
    rw [uq_ap, if_neg (by omega), ih]
theorem allS_of {R : Rd} {S S' : Rd} (h : ∀ i, S' 3 i = S 3 i) : allS R S' ↔ allS R S := by
  unfold allS
  constructor
  · intro q c c1 c2; rw [← h]; exact q c c1 c2
  · intro q c c1 c2; rw [h]; exact q c c1 c2
theorem sumS_of {S S' : Rd} (h : ∀ i, S' 3 i = S 3 i) : ∀ n : Nat, sumS S' n = sumS S n := by
  intro n
  induction n with
  | zero => rfl
  | succ n ih => rw [sumS, sumS, ih, h]
theorem frostFrom {μ : Mem} {R : Rd} {h : Int} (hR : RCr μ R) (hh : 1 ≤ h ∧ h ≤ 60) : ∃ u, roa_hasFrostFrom 1 μ h = some u ∧ (u = 0 → ∀ k : Int, h ≤ k → k ≤ 60 → R 8 k ≠ 1) := by
  obtain ⟨f, f1, f2, f3⟩ := hR.2.2.2.2.2
  obtain ⟨g, rfl⟩ : ∃ g : Nat, h = (g : Int) := ⟨h.toNat, by omega⟩
  unfold roa_hasFrostFrom
  rw [f1, lShr_nat (by omega) (by omega)]
  simp only [lCmp0]
  by_cases z : ((f / 2 ^ g : Nat) : Int) = 0
  · rw [if_pos z]
    refine ⟨0, rfl, fun _ k k1 k2 hk => ?_⟩
    have hb := f3 k.toNat (by omega)
    rw [show ((k.toNat : Nat) : Int) = k by omega, decide_eq_true hk] at hb
    have h0 : f / 2 ^ g = 0 := by omega
    have hlt : f < 2 ^ g := (Nat.div_eq_zero_iff_lt (Nat.two_pow_pos g)).mp h0
    have hlt2 : f < 2 ^ k.toNat := Nat.lt_of_lt_of_le hlt (Nat.pow_le_pow_right (by omega) (by omega))
    rw [Nat.testBit_lt_two_pow hlt2] at hb
    cases hb
  · rw [if_neg z]
    exact ⟨1, rfl, fun q => by omega⟩
/-- the class's loop over hours, with its early ends -/
theorem allDone29 {R : Rd} {p : Int → Int} {o1 : Nat} (hO : Okr R) (hp : inP R p) : ∀ (m f i : Nat) (st : Int) (μ : Mem), m < f → i + m = 60 → RCr μ R → OrdM μ 37 (R 0 1) p → μ 36 1 = R 0 1 → CM μ R (runP R p i) → μ 35 8 ≤ i → (∀ c : Int, 0 ≤ c → c < R 0 1 → pt R c 6 ≤ μ 35 11) → (st = 0 ∨ st = 1 ∧ quietP R p i ∨ st = 2 ∧ quietP R p (i - 1) ∧ quietP R p i) → ∃ d μ', run_allDone_29 o1 f st ((i + 1 : Nat) : Int) μ = some (d, μ') ∧ Off Crun1 μ μ' ∧ (d = 1 ∧ allS R (runP R p 60) ∧ (∀ c : Int, 0 ≤ c → c < R 0 1 → μ' 41 c.toNat = runP R p 60 3 c) ∨ d = 0 ∧ ¬ allS R (runP R p 60)) := by
  have hb := hO.1
  -- the end at hour i
  have fin : ∀ (i : Nat) (μ : Mem), i ≤ 60 → CM μ R (runP R p i) → (i = 60 ∨ μ 35 9 ≤ 0 ∨ quietP R p (i - 1) ∧ quietP R p i) → ∃ d μ', run_allDone_119 o1 μ = some (d, μ') ∧ Off Crun1 μ μ' ∧ (d = 1 ∧ allS R (runP R p 60) ∧ (∀ c : Int, 0 ≤ c → c < R 0 1 → μ' 41 c.toNat = runP R p 60 3 c) ∨ d = 0 ∧ ¬ allS R (runP R p 60)) := fun i μ hi hS hw => by
    have hl := hS.1.2.2.2.1
    have hl2 := leftN_nn (runP R p i) (R 0 1).toNat
    have hz := leftN_zero (S := runP R p i) (R 0 1).toNat
    unfold run_allDone_119
    by_cases z : μ 35 9 = 0
    · have hd : allS R (runP R p i) := fun c c1 c2 => hz.mp (by omega) c c1 (by omega)
      have h3 := done_stays hO hp hd (60 - i) (by omega)
      rw [show i + (60 - i) = 60 by omega] at h3
      rw [if_pos z]
      refine ⟨1, μ, rfl, Off.rf, Or.inl ⟨rfl, (allS_of h3).mpr hd, fun c c1 c2 => ?_⟩⟩
      rw [h3, (hS.1.1 c c1 c2).2.2.2]
      unfold dn0
      rw [if_neg (hd c c1 c2)]
    · rw [if_neg z]
      refine ⟨0, μ, rfl, Off.rf, Or.inr ⟨rfl, ?_⟩⟩
      have hnd : ¬ allS R (runP R p i) := fun q => z (by rw [hl]; exact hz.mpr (fun c c1 c2 => q c c1 (by omega)))
      rcases hw with hw | hw | ⟨q1, q2⟩
      · subst hw; exact hnd
      · omega
      · have h1 := q1.1
        have h3 := stuck_core (h := i - 1) hp (by omega) q1 (by rw [show i - 1 + 1 = i by omega]; exact q2) (60 - i) (by omega)
        rw [show i - 1 + 1 + (60 - i) = 60 by omega, show i - 1 + 1 = i by omega] at h3
        exact fun q => hnd ((allS_of (fun c => h3 3 c (by omega))).mp q)
  intro m
  induction m with
  | zero =>
    intro f i st μ hf hi hR hP h36 hS h8 h11 hq
    obtain ⟨f, rfl⟩ : ∃ g, f = g + 1 := ⟨f - 1, by omega⟩
    rw [run_allDone_29.eq_2, if_pos (by omega)]
    exact fin i μ (by omega) hS (Or.inl (by omega))
  | succ m ih =>
    intro f i st μ hf hi hR hP h36 hS h8 h11 hq
    obtain ⟨f, rfl⟩ : ∃ g, f = g + 1 := ⟨f - 1, by omega⟩
    rw [run_allDone_29.eq_2, if_neg (by omega)]
    by_cases z1 : μ 35 9 ≤ 0
    · rw [if_pos z1]
      exact fin i μ (by omega) hS (Or.inr (Or.inl z1))
    rw [if_neg z1]
    by_cases z2 : 2 ≤ st
    · rw [if_pos z2]
      refine fin i μ (by omega) hS (Or.inr (Or.inr ?_))
      rcases hq with q | q | q
      · omega
      · omega
      · exact q.2
    rw [if_neg z2]
    obtain ⟨μ1, a1, a2, a3, a4⟩ := chour_eq (h := ((i + 1 : Nat) : Int)) hR hO hp hP h36 (by omega) (t := 5 * i) (by omega) (RV.run hO hp i (by omega)) hS.1 (by omega)
    have a3' : CM μ1 R (runP R p (i + 1)) := a3
    have nx : ∀ st' : Int, (st' = 0 ∨ st' = 1 ∧ quietP R p (i + 1) ∨ st' = 2 ∧ quietP R p i ∧ quietP R p (i + 1)) → ∃ d μ', run_allDone_29 o1 f st' (((i + 1 : Nat) : Int) + 1) μ1 = some (d, μ') ∧ Off Crun1 μ μ' ∧ (d = 1 ∧ allS R (runP R p 60) ∧ (∀ c : Int, 0 ≤ c → c < R 0 1 → μ' 41 c.toNat = runP R p 60 3 c) ∨ d = 0 ∧ ¬ allS R (runP R p 60)) := fun st' hst => by
      obtain ⟨d, μ', k1, k2, k3⟩ := ih f (i + 1) st' μ1 (by omega) (by omega) (hR.keep1 a2) (fun j j1 j2 => by rw [a2 _ _ (by unfold Crun1; omega)]; exact hP j j1 j2) (by rw [a2 _ _ (by unfold Crun1; omega)]; exact h36) a3' (by omega) (fun c c1 c2 => by rw [a2 _ _ (by unfold Crun1; omega)]; exact h11 c c1 c2) (by rw [Nat.add_sub_cancel]; exact hst)
      exact ⟨d, μ', by rw [show ((i + 1 : Nat) : Int) + 1 = ((i + 1 + 1 : Nat) : Int) by omega]; exact k1, a2.tr k2, k3⟩
    have e75 : ∀ s0 : Int, run_allDone_75 o1 (run_allDone_29 o1 f) st ((i + 1 : Nat) : Int) s0 μ = if s0 = 0 then (if μ1 35 10 ≤ μ 35 10 then run_allDone_29 o1 f (wI (st + 1)) (((i + 1 : Nat) : Int) + 1) μ1 else run_allDone_29 o1 f 0 (((i + 1 : Nat) : Int) + 1) μ1) else run_allDone_29 o1 f 0 (((i + 1 : Nat) : Int) + 1) μ1 := fun s0 => by
      rw [run_allDone_75.eq_1, bnd.eq_1, a1, Option.bind_some]
      simp only [run_allDone_111.eq_1]
      rw [wI_id (x := ((i + 1 : Nat) : Int) + 1) (by omega)]
    have can : ∃ d μ', run_allDone_75 o1 (run_allDone_29 o1 f) st ((i + 1 : Nat) : Int) 1 μ = some (d, μ') ∧ Off Crun1 μ μ' ∧ (d = 1 ∧ allS R (runP R p 60) ∧ (∀ c : Int, 0 ≤ c → c < R 0 1 → μ' 41 c.toNat = runP R p 60 3 c) ∨ d = 0 ∧ ¬ allS R (runP R p 60)) := by
      rw [e75, if_neg (by omega)]
      exact nx 0 (Or.inl rfl)
    by_cases z3 : ((i + 1 : Nat) : Int) ≤ μ 35 11
    · rw [if_pos z3]; exact can
    rw [if_neg z3]
    obtain ⟨u, u1, u2⟩ := frostFrom (h := ((i + 1 : Nat) : Int)) hR (by omega)
    rw [u1, Option.bind_some]
    by_cases z4 : u = 0
    · rw [if_pos z4, e75, if_pos rfl]
      by_cases z5 : μ1 35 10 ≤ μ 35 10
      · have hst : st = 0 ∨ st = 1 := by omega
        rw [if_pos z5, wI_id (by omega)]
        have hsteps : runP R p (i + 1) 6 0 = runP R p i 6 0 := by
          have e1 := hS.1.2.2.2.2
          have e2 := a3'.1.2.2.2.2
          have hm : runP R p i 6 0 ≤ runP R p (i + 1) 6 0 := by
            rw [runP]
            unfold hourP
            rw [thaw_n _ _ _ 6 _ (by omega)]
            have := row_mono R ((i + 1 : Nat) : Int) p (uq (runP R p i) 5 0 0) (R 0 1).toNat
            rw [uq_ap, if_neg (by omega)] at this
            exact this
          omega
        have hquiet : quietP R p (i + 1) := ⟨by omega, fun c c1 c2 => by have := h11 c c1 c2; omega, u2 z4, by rw [Nat.add_sub_cancel]; exact hsteps⟩
        refine nx (st + 1) ?_
        rcases hq with q | q | q
        · exact Or.inr (Or.inl ⟨by omega, hquiet⟩)
        · exact Or.inr (Or.inr ⟨by omega, q.2, hquiet⟩)
        · omega
      · rw [if_neg z5]
        exact nx 0 (Or.inl rfl)
    · rw [if_neg z4]; exact can
