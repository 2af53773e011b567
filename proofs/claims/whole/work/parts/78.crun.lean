/-! ===== the class's run ===== -/
def RCr (μ : Mem) (R : Rd) : Prop := (μ 1 9 = R 0 0 ∧ μ 1 10 = R 0 1) ∧ (∀ i : Int, 0 ≤ i → i < 21 → μ 2 i.toNat = R 1 i) ∧ (∃ b : Nat, μ 1 7 = (b : Int) ∧ b < 2097152 ∧ ∀ i : Nat, i < 21 → b.testBit i = decide (R 3 (i : Int) = 1)) ∧ (∀ i : Int, 0 ≤ i → i < 63 → μ 4 i.toNat = R 4 i) ∧ (∀ i : Int, 0 ≤ i → i < 7 * R 0 1 → μ 6 i.toNat = R 6 i) ∧ (∃ f : Nat, μ 1 8 = (f : Int) ∧ f < 2305843009213693952 ∧ ∀ h : Nat, h < 61 → f.testBit h = decide (R 8 (h : Int) = 1))
theorem RC.r {μ : Mem} {R : Rd} (H : RC μ 1 R) : RCr μ R := by
  obtain ⟨⟨a1, a2, a3⟩, b, c, d, e, f, g, h7, h8, h9⟩ := H
  exact ⟨⟨a1, a2⟩, b, d, e, g, h8⟩
def Crun (a j : Nat) : Prop := (a = 35 ∧ j ≠ 8 ∧ j ≠ 11) ∨ (38 ≤ a ∧ a ≤ 43)
theorem RCr.off {μ μ' : Mem} {R : Rd} (h : ∀ a, 1 ≤ a → a ≤ 8 → μ' a = μ a) (H : RCr μ R) : RCr μ' R := by
  unfold RCr at H ⊢
  rw [h 1 (by omega) (by omega), h 2 (by omega) (by omega), h 4 (by omega) (by omega), h 6 (by omega) (by omega)]
  exact H
theorem RCr.keep {μ μ' : Mem} {R : Rd} (h : Off Crun μ μ') (H : RCr μ R) : RCr μ' R := H.off (fun a _ _ => h.cell (fun j => by unfold Crun; omega))
theorem RCr.set {μ : Mem} {R : Rd} {a i : Nat} {v : Int} (ha : 9 ≤ a) (H : RCr μ R) : RCr (mset μ a i v) R := H.off (fun b _ _ => mset_off (by omega))
theorem RCr.lev {μ : Mem} {R : Rd} {a b : Int} (H : RCr μ R) : RCr μ (levP R a b) := by
  have q : ∀ s k, s ≠ 5 → levP R a b s k = R s k := fun s k z => by unfold levP; rw [if_neg (fun y => z y.1)]
  obtain ⟨⟨a1, a2⟩, b', c, d, e, f⟩ := H
  refine ⟨⟨?_, ?_⟩, fun i h1 h2 => ?_, ?_, fun i h1 h2 => ?_, fun i h1 h2 => ?_, ?_⟩
  · rw [q _ _ (by omega)]; exact a1
  · rw [q _ _ (by omega)]; exact a2
  · rw [q _ _ (by omega)]; exact b' i h1 h2
  · obtain ⟨c, c1, c2, c3⟩ := c
    exact ⟨c, c1, c2, fun i hi => by rw [q _ _ (by omega)]; exact c3 i hi⟩
  · rw [q _ _ (by omega)]; exact d i h1 h2
  · rw [q _ _ (by omega)] at h2 ⊢; exact e i h1 h2
  · obtain ⟨f, f1, f2, f3⟩ := f
    exact ⟨f, f1, f2, fun i hi => by rw [q _ _ (by omega)]; exact f3 i hi⟩
theorem cpart {μ : Mem} {R : Rd} {c k : Int} (H : RCr μ R) (hc : 0 ≤ c ∧ c < R 0 1 ∧ R 0 1 ≤ 5) (hk : 0 ≤ k ∧ k < 7) : roa_part 1 μ c k = some (pt R c k) := by
  rw [part_eq (by omega)]
  unfold pt
  rw [← H.2.2.2.2.1 (7 * c + k) (by omega) (by omega)]
def leftN (S : Rd) : Nat → Int
  | 0 => 0
  | k + 1 => leftN S k + if S 3 (k : Int) = -4 then 1 else 0
theorem leftN_same {S S' : Rd} : ∀ n : Nat, (∀ c : Int, 0 ≤ c → c < n → S' 3 c = S 3 c) → leftN S' n = leftN S n := by
  intro n
  induction n with
  | zero => intro _; rfl
  | succ n ih => intro h; rw [leftN, leftN, ih (fun c c1 c2 => h c c1 (by omega)), h n (by omega) (by omega)]
theorem leftN_less {S S' : Rd} {d : Int} : ∀ n : Nat, 0 ≤ d → d < n → S 3 d = -4 → S' 3 d ≠ -4 → (∀ c : Int, 0 ≤ c → c < n → c ≠ d → S' 3 c = S 3 c) → leftN S' n = leftN S n - 1 := by
  intro n
  induction n with
  | zero => intro h1 h2; omega
  | succ n ih =>
    intro h1 h2 h3 h4 h5
    rw [leftN, leftN]
    by_cases z : d = (n : Int)
    · rw [leftN_same (S := S) (S' := S') n (fun c c1 c2 => h5 c c1 (by omega) (by omega)), ← z, if_neg h4, if_pos h3]; omega
    · rw [ih h1 (by omega) h3 h4 (fun c c1 c2 c3 => h5 c c1 (by omega) c3), h5 n (by omega) (by omega) (by omega)]; omega
theorem leftN_nn (S : Rd) : ∀ n : Nat, 0 ≤ leftN S n ∧ leftN S n ≤ n := by
  intro n
  induction n with
  | zero => simp [leftN]
  | succ n ih => rw [leftN]; split <;> omega
theorem leftN_zero {S : Rd} : ∀ n : Nat, leftN S n = 0 ↔ ∀ c : Int, 0 ≤ c → c < n → S 3 c ≠ -4 := by
  intro n
  induction n with
  | zero => simp only [leftN, true_iff]; intro c c1 c2; omega
  | succ n ih =>
    have hn := leftN_nn S n
    rw [leftN]
    constructor
    · intro h c c1 c2
      have h0 : leftN S n = 0 := by split at h <;> omega
      by_cases z : c = (n : Int)
      · rw [z]; intro y; rw [if_pos y] at h; omega
      · exact ih.mp h0 c c1 (by omega)
    · intro h
      rw [ih.mpr (fun c c1 c2 => h c c1 (by omega)), if_neg (h n (by omega) (by omega))]; omega
def dn0 (x : Int) : Int := if x = -4 then 0 else x
/-- the class's rows tell the state S (hours' waiting apart) -/
def CM0 (μ : Mem) (R S : Rd) : Prop := (∀ c : Int, 0 ≤ c → c < R 0 1 → μ 38 c.toNat = S 0 c ∧ μ 39 c.toNat = S 1 c ∧ μ 40 c.toNat = S 2 c ∧ μ 41 c.toNat = dn0 (S 3 c)) ∧ (∀ k : Int, 0 ≤ k → k < 63 → (0 ≤ μ 42 k.toNat ∧ μ 42 k.toNat ≤ 99) ∧ (0 ≤ μ 43 k.toNat ∧ μ 43 k.toNat ≤ μ 35 8) ∧ iMax 0 (μ 42 k.toNat - (μ 35 8 - μ 43 k.toNat)) = S 4 k) ∧ (0 ≤ μ 35 8 ∧ μ 35 8 ≤ 1000) ∧ μ 35 9 = leftN S (R 0 1).toNat ∧ μ 35 10 = S 6 0
def CM (μ : Mem) (R S : Rd) : Prop := CM0 μ R S ∧ μ 35 12 = S 5 0
theorem isDone_eq {μ : Mem} {R S : Rd} {c t : Int} (hO : Okr R) (hS : CM0 μ R S) (hV : RV R S t) (hc : 0 ≤ c ∧ c < R 0 1) : run_isDone μ c = some (if S 3 c = -4 then 0 else 1) := by
  have hb := hO.1
  have h1 := (hS.1 c hc.1 hc.2).2.2.2
  have h2 := (hV.1 c hc.1 hc.2).2.2.2.2
  unfold run_isDone
  rw [at_in (by omega), Option.bind_some, h1]
  unfold dn0
  by_cases z : S 3 c = -4
  · rw [if_pos z, if_pos z, if_pos (by omega)]
  · rw [if_neg z, if_neg z, if_neg (by omega)]
theorem depthOf_eq {μ : Mem} {R S : Rd} {k : Int} (hS : CM0 μ R S) (hk : 0 ≤ k ∧ k < 63) : run_depthOf μ k = some (S 4 k) := by
  obtain ⟨h1, h2, h3⟩ := hS.2.1 k hk.1 hk.2
  have h4 := hS.2.2.1
  unfold run_depthOf
  rw [at_in (by omega), Option.bind_some, at_in (by omega), Option.bind_some, wI_id (x := μ 35 8 - μ 43 k.toNat) (by omega), wI_id (by omega), h3]
theorem cbog {μ : Mem} {R : Rd} {y : Int} (H : RCr μ R) (h : 0 ≤ y ∧ y < 21) : roa_isBog 1 μ y = some (if R 3 y = 1 then 1 else 0) := by
  obtain ⟨b, b1, b2, b3⟩ := H.2.2.1
  have e : y = ((y.toNat : Nat) : Int) := by omega
  have b5 := b3 y.toNat (by omega)
  unfold roa_isBog
  rw [b1]
  generalize hk : y.toNat = k at *
  subst e
  rw [iBit (by omega) (by omega), b5]
  by_cases z : R 3 (k : Int) = 1
  · simp [z]
  · simp [z]
theorem cfro {μ : Mem} {R : Rd} {h : Int} (H : RCr μ R) (hh : 0 ≤ h ∧ h < 61) : roa_isFrost 1 μ h = some (if R 8 h = 1 then 1 else 0) := by
  obtain ⟨b, b1, b2, b3⟩ := H.2.2.2.2.2
  have e : h = ((h.toNat : Nat) : Int) := by omega
  have b5 := b3 h.toNat (by omega)
  unfold roa_isFrost
  rw [b1]
  generalize hk : h.toNat = k at *
  subst e
  rw [lBit (by omega) (by omega), b5]
  simp only [lCmp0]
  by_cases z : R 8 (k : Int) = 1
  · simp [z]
  · simp [z]
theorem isTaken_loop {μ : Mem} {R S : Rd} {c y t : Int} (hR : RCr μ R) (hO : Okr R) (hS : CM0 μ R S) (hV : RV R S t) (hc : 0 ≤ c ∧ c < R 0 1) (hy : 0 ≤ y ∧ y < 21) : ∀ (m f : Nat) (o : Int), m < f → 0 ≤ o → o + m = R 0 1 → ((∀ o' : Int, o ≤ o' → o' < R 0 1 → ¬ badP R S c y o') → run_isTaken_3 μ f c y (pt R c 1) o = some 0) ∧ (¬ (∀ o' : Int, o ≤ o' → o' < R 0 1 → ¬ badP R S c y o') → run_isTaken_3 μ f c y (pt R c 1) o = some 1) := by
  have hb := hO.1
  intro m
  induction m with
  | zero =>
    intro f o hf h0 he
    obtain ⟨f, rfl⟩ : ∃ g, f = g + 1 := ⟨f - 1, by omega⟩
    rw [run_isTaken_3.eq_2, if_pos (by rw [hR.1.2]; omega)]
    exact ⟨fun _ => rfl, fun h => absurd (fun o' h1 h2 => by omega) h⟩
  | succ m ih =>
    intro f o hf h0 he
    obtain ⟨f, rfl⟩ : ∃ g, f = g + 1 := ⟨f - 1, by omega⟩
    obtain ⟨i1, i2⟩ := ih f (o + 1) (by omega) (by omega) (by omega)
    have hd := isDone_eq hO hS hV (c := o) (by omega)
    have hv := (hV.1 o (by omega) (by omega)).2.2.2.1
    have h38 := (hS.1 o (by omega) (by omega)).1
    have p1 := cpart (c := o) (k := 1) hR (by omega) (by omega)
    have hbg := cbog hR hy
    have s1 : (badP R S c y o → run_isTaken_3 μ (f + 1) c y (pt R c 1) o = some 1) ∧ (¬ badP R S c y o → run_isTaken_3 μ (f + 1) c y (pt R c 1) o = run_isTaken_3 μ f c y (pt R c 1) (o + 1)) := by
      rw [run_isTaken_3.eq_2, if_neg (by rw [hR.1.2]; omega), hd, at_in (by omega), h38]
      unfold run_isTaken_48 run_isTaken_82 badP
      rw [hbg, p1]
      simp only [Option.bind_some, show ¬ (1 : Int) = 0 by omega, if_false, if_true, wI_id (x := o + 1) (by omega)]
      by_cases z1 : o = c
      · rw [if_pos z1]
        exact ⟨fun h => absurd z1 h.1, fun _ => rfl⟩
      · rw [if_neg z1]
        by_cases z3 : S 3 o = -4
        · have z3' := hv.mp z3
          rw [if_pos z3, if_pos rfl]
          by_cases z2 : S 0 o = y
          · rw [if_pos z2]
            by_cases b : R 3 y = 1
            · rw [if_pos b, if_neg (by omega)]
              exact ⟨fun _ => rfl, fun h => absurd ⟨z1, z2, z3', Or.inl b⟩ h⟩
            · rw [if_neg b, if_pos rfl]
              by_cases z4 : pt R o 1 = pt R c 1
              · rw [if_pos z4]
                exact ⟨fun _ => rfl, fun h => absurd ⟨z1, z2, z3', Or.inr z4⟩ h⟩
              · rw [if_neg z4]
                exact ⟨fun h => by rcases h.2.2.2 with q | q; exact absurd q b; exact absurd q z4, fun _ => rfl⟩
          · rw [if_neg z2]
            exact ⟨fun h => absurd h.2.1 z2, fun _ => rfl⟩
        · have z3' : S 0 o = pt R o 5 := Decidable.byContradiction (fun q => z3 (hv.mpr q))
          rw [if_neg z3, if_neg (by omega)]
          exact ⟨fun h => absurd z3' h.2.2.1, fun _ => rfl⟩
    refine ⟨fun h => ?_, fun h => ?_⟩
    · rw [s1.2 (h o (by omega) (by omega))]
      exact i1 (fun o' h1 h2 => h o' (by omega) h2)
    · by_cases z : badP R S c y o
      · exact s1.1 z
      · rw [s1.2 z]
        refine i2 (fun q => h (fun o' h1 h2 => ?_))
        by_cases y : o' = o
        · rw [y]; exact z
        · exact q o' (by omega) h2
theorem isTaken_eq {μ : Mem} {R S : Rd} {c y t : Int} (hR : RCr μ R) (hO : Okr R) (hS : CM0 μ R S) (hV : RV R S t) (hc : 0 ≤ c ∧ c < R 0 1) (hy : 0 ≤ y ∧ y < 21) : (freeP R S c y → run_isTaken μ c y (pt R c 1) = some 0) ∧ (¬ freeP R S c y → run_isTaken μ c y (pt R c 1) = some 1) := by
  have hb := hO.1
  obtain ⟨n, hn⟩ : ∃ n : Nat, (n : Int) = R 0 1 := ⟨(R 0 1).toNat, by omega⟩
  obtain ⟨i1, i2⟩ := isTaken_loop hR hO hS hV hc hy n BIG 0 (by have := BIG_gt; omega) (by omega) (by omega)
  exact ⟨fun h => i1 (fun o h1 h2 => h o h1 h2), fun h => i2 (fun q => h (fun o h1 h2 => q o h1 h2))⟩
theorem isOpen_eq {μ : Mem} {R : Rd} {c y d : Int} (hR : RCr μ R) (hO : Okr R) (hc : 0 ≤ c ∧ c < R 0 1) (hy : 0 ≤ y ∧ y ≤ R 0 0) : (pt R c 0 = 2 ∨ (hasRutP R y (pt R c 1) ∧ d ≤ pt R c 3) → roa_isOpen 1 μ c y (pt R c 1) d = some 1) ∧ (¬ (pt R c 0 = 2 ∨ (hasRutP R y (pt R c 1) ∧ d ≤ pt R c 3)) → roa_isOpen 1 μ c y (pt R c 1) d = some 0) := by
  have hb := hO.1
  have hpc := hO.2.2.2.2.2.1 c hc.1 hc.2
  unfold roa_isOpen hasRutP
  rw [cpart hR (by omega) (by omega), Option.bind_some, hasYard_eq, hR.1.1, if_pos hy, hasRut_eq (by rw [hR.1.1]; omega), hR.1.1, show μ (1 + 1) y.toNat = R 1 y from hR.2.1 y (by omega) (by omega), cpart hR (by omega) (by omega)]
  simp only [Option.bind_some]
  by_cases z1 : pt R c 0 = 2
  · rw [if_pos z1]
    exact ⟨fun _ => rfl, fun n => absurd (Or.inl z1) n⟩
  · rw [if_neg z1]
    by_cases z2 : R 1 y = -4 ∨ R 1 y = pt R c 1
    · rw [if_neg (show ¬ (if (0 ≤ y ∧ y ≤ R 0 0) ∧ (0 ≤ pt R c 1 ∧ pt R c 1 ≤ 2) ∧ (R 1 y = -4 ∨ R 1 y = pt R c 1) then (1 : Int) else 0) = 0 by rw [if_pos ⟨hy, by omega, z2⟩]; omega)]
      by_cases z3 : pt R c 3 < d
      · rw [if_pos z3]
        exact ⟨fun q => by rcases q with q | q; exact absurd q z1; omega, fun _ => rfl⟩
      · rw [if_neg z3]
        exact ⟨fun _ => rfl, fun n => absurd (Or.inr ⟨z2, by omega⟩) n⟩
    · rw [if_pos (show (if (0 ≤ y ∧ y ≤ R 0 0) ∧ (0 ≤ pt R c 1 ∧ pt R c 1 ≤ 2) ∧ (R 1 y = -4 ∨ R 1 y = pt R c 1) then (1 : Int) else 0) = 0 by rw [if_neg (fun q => z2 q.2.2)])]
      exact ⟨fun q => by rcases q with q | q; exact absurd q z1; exact absurd q.1 z2, fun _ => rfl⟩
