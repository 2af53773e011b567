/-! ===== text: what is seen when all is told ===== -/
def gdR (ν : Mem) (k : Nat) : Prop := ν 73 k = 0 ∨ ν 70 (k / 3) = -4 ∨ ν 70 (k / 3) = ((k % 3 : Nat) : Int)
theorem a12 {ν : Mem} {k4 : Int → Int → Option Int} {y : Nat} (hy : y < 21) : ∀ (m f w : Nat) (x1 : Int), m < f → w + m = 3 → (x1 = 0 ∨ x1 = 1) → ∃ x : Int, (x = 0 ∨ x = 1) ∧ mod_areRuts_12 ν k4 f x1 (y : Int) (w : Int) = k4 x ((y + 1 : Nat) : Int) ∧ (x = 1 ↔ x1 = 1 ∧ ∀ v : Nat, w ≤ v → v < 3 → gdR ν (3 * y + v)) := by
  intro m
  induction m with
  | zero =>
    intro f w x1 hf hw hx
    obtain ⟨f, rfl⟩ : ∃ g, f = g + 1 := ⟨f - 1, by omega⟩
    refine ⟨x1, hx, ?_, fun q => ⟨q, fun v v1 v2 => by omega⟩, fun q => q.1⟩
    rw [mod_areRuts_12.eq_2, if_pos (by omega), wI_id (by omega)]
    rfl
  | succ m ih =>
    intro f w x1 hf hw hx
    obtain ⟨f, rfl⟩ : ∃ g, f = g + 1 := ⟨f - 1, by omega⟩
    have st : ∀ s : Int, mod_areRuts_60 ν (mod_areRuts_12 ν k4 f) (y : Int) (w : Int) s = mod_areRuts_12 ν k4 f s (y : Int) ((w + 1 : Nat) : Int) := fun s => by
      rw [mod_areRuts_60.eq_1, wI_id (by omega)]
      rfl
    have e1 : (3 * y + w) / 3 = y := by omega
    have e2 : (3 * y + w) % 3 = w := by omega
    have fin : ∀ s : Int, (s = 0 ∨ s = 1) → (s = 1 ↔ x1 = 1 ∧ gdR ν (3 * y + w)) → mod_areRuts_12 ν k4 (f + 1) x1 (y : Int) (w : Int) = mod_areRuts_12 ν k4 f s (y : Int) ((w + 1 : Nat) : Int) → ∃ x : Int, (x = 0 ∨ x = 1) ∧ mod_areRuts_12 ν k4 (f + 1) x1 (y : Int) (w : Int) = k4 x ((y + 1 : Nat) : Int) ∧ (x = 1 ↔ x1 = 1 ∧ ∀ v : Nat, w ≤ v → v < 3 → gdR ν (3 * y + v)) := fun s hs hg he => by
      obtain ⟨x, i1, i2, i3⟩ := ih f (w + 1) s (by omega) (by omega) hs
      refine ⟨x, i1, he.trans i2, i3.trans ⟨fun q => ⟨(hg.mp q.1).1, fun v v1 v2 => ?_⟩, fun q => ⟨hg.mpr ⟨q.1, q.2 w (by omega) (by omega)⟩, fun v v1 v2 => q.2 v (by omega) v2⟩⟩⟩
      by_cases z : v = w
      · rw [z]; exact (hg.mp q.1).2
      · exact q.2 v (by omega) v2
    have hn : ¬ ((3 : Int) ≤ (w : Int)) := by omega
    by_cases c0 : x1 = 0
    · refine fin 0 (Or.inl rfl) ⟨fun q => by omega, fun q => by omega⟩ ?_
      rw [mod_areRuts_12.eq_2, if_neg hn, if_pos c0, st]
    · have c1 : x1 = 1 := by omega
      have hl : mod_areRuts_12 ν k4 (f + 1) x1 (y : Int) (w : Int) = if ν 73 (3 * y + w) = 0 then mod_areRuts_12 ν k4 f 1 (y : Int) ((w + 1 : Nat) : Int) else if ν 70 y = -4 then mod_areRuts_12 ν k4 f 1 (y : Int) ((w + 1 : Nat) : Int) else if ν 70 y = (w : Int) then mod_areRuts_12 ν k4 f 1 (y : Int) ((w + 1 : Nat) : Int) else mod_areRuts_12 ν k4 f 0 (y : Int) ((w + 1 : Nat) : Int) := by
        rw [mod_areRuts_12.eq_2, if_neg hn, if_neg c0, wI_id (x := 3 * (y : Int)) (by omega), wI_id (x := 3 * (y : Int) + (w : Int)) (by omega), ld_ok (by omega), Option.bind_some, ld_ok (by omega), Option.bind_some, Option.bind_some, st, st, show (3 * (y : Int) + (w : Int)).toNat = 3 * y + w by omega, Int.toNat_natCast]
      have g : gdR ν (3 * y + w) ↔ (ν 73 (3 * y + w) = 0 ∨ ν 70 y = -4 ∨ ν 70 y = (w : Int)) := by unfold gdR; rw [e1, e2]
      by_cases p1 : ν 73 (3 * y + w) = 0
      · refine fin 1 (Or.inr rfl) ⟨fun _ => ⟨c1, g.mpr (Or.inl p1)⟩, fun _ => rfl⟩ ?_
        rw [hl, if_pos p1]
      · by_cases p2 : ν 70 y = -4
        · refine fin 1 (Or.inr rfl) ⟨fun _ => ⟨c1, g.mpr (Or.inr (Or.inl p2))⟩, fun _ => rfl⟩ ?_
          rw [hl, if_neg p1, if_pos p2]
        · by_cases p3 : ν 70 y = (w : Int)
          · refine fin 1 (Or.inr rfl) ⟨fun _ => ⟨c1, g.mpr (Or.inr (Or.inr p3))⟩, fun _ => rfl⟩ ?_
            rw [hl, if_neg p1, if_neg p2, if_pos p3]
          · refine fin 0 (Or.inl rfl) ⟨fun q => by omega, fun q => ?_⟩ ?_
            · rcases g.mp q.2 with z | z | z
              · exact absurd z p1
              · exact absurd z p2
              · exact absurd z p3
            · rw [hl, if_neg p1, if_neg p2, if_neg p3]
theorem a4 {ν : Mem} : ∀ (m f y : Nat) (x1 : Int), m < f → y + m = 21 → (x1 = 0 ∨ x1 = 1) → ∃ x : Int, (x = 0 ∨ x = 1) ∧ mod_areRuts_4 ν f x1 (y : Int) = some x ∧ (x = 1 ↔ x1 = 1 ∧ ∀ k : Nat, 3 * y ≤ k → k < 63 → gdR ν k) := by
  have hB := BIG_gt
  intro m
  induction m with
  | zero =>
    intro f y x1 hf hy hx
    obtain ⟨f, rfl⟩ : ∃ g, f = g + 1 := ⟨f - 1, by omega⟩
    refine ⟨x1, hx, ?_, fun q => ⟨q, fun k k1 k2 => by omega⟩, fun q => q.1⟩
    rw [mod_areRuts_4.eq_2, if_pos (by omega)]
    rcases hx with rfl | rfl
    · rw [zN_0]
    · rw [zN_1]
  | succ m ih =>
    intro f y x1 hf hy hx
    obtain ⟨f, rfl⟩ : ∃ g, f = g + 1 := ⟨f - 1, by omega⟩
    obtain ⟨x2, i1, i2, i3⟩ := a12 (ν := ν) (k4 := mod_areRuts_4 ν f) (y := y) (by omega) 3 BIG 0 x1 (by omega) (by omega) hx
    obtain ⟨x3, j1, j2, j3⟩ := ih f (y + 1) x2 (by omega) (by omega) i1
    refine ⟨x3, j1, ?_, j3.trans ⟨fun q => ⟨(i3.mp q.1).1, fun k k1 k2 => ?_⟩, fun q => ⟨i3.mpr ⟨q.1, fun v v1 v2 => q.2 _ (by omega) (by omega)⟩, fun k k1 k2 => q.2 k (by omega) k2⟩⟩⟩
    · rw [mod_areRuts_4.eq_2, if_neg (by omega)]
      exact i2.trans j2
    · by_cases z : 3 * (y + 1) ≤ k
      · exact q.2 k z k2
      · have := (i3.mp q.1).2 (k - 3 * y) (by omega) (by omega)
        rwa [show 3 * y + (k - 3 * y) = k by omega] at this
theorem areRuts_eq (ν : Mem) : ∃ x : Int, (x = 0 ∨ x = 1) ∧ mod_areRuts ν = some x ∧ (x = 1 ↔ ∀ k : Nat, k < 63 → gdR ν k) := by
  have hB := BIG_gt
  obtain ⟨x, h1, h2, h3⟩ := a4 (ν := ν) 21 BIG 0 1 (by omega) (by omega) (Or.inr rfl)
  exact ⟨x, h1, h2, h3.trans ⟨fun q k k1 => q.2 k (by omega) k1, fun q => ⟨rfl, fun k _ k2 => q k k2⟩⟩⟩
theorem dv3 : ∀ a : Fin 63, iDiv ((a.val : Nat) : Int) 3 = ((a.val / 3 : Nat) : Int) ∧ iRem ((a.val : Nat) : Int) 3 = ((a.val % 3 : Nat) : Int) := by decide +kernel
theorem w27 {μ ν : Mem} (D : DD μ ν) (hl : μ 25 11 ≤ μ 27 9) : ∀ (m f r : Nat), m < f → r + m = 63 → ((∀ k : Nat, r ≤ k → k < 63 → gdR ν k) → rea_isWhole_27 f (r : Int) μ = some (1, μ)) ∧ (¬ (∀ k : Nat, r ≤ k → k < 63 → gdR ν k) → rea_isWhole_27 f (r : Int) μ = some (0, mset (mset μ 25 3 7) 25 4 (μ 25 1))) := by
  have d0 := D.d0
  have d15 := D.d15
  obtain ⟨b, b1, b2, b3⟩ := D.d12
  unfold dc_0 at d0
  unfold dc_15 at d15
  intro m
  induction m with
  | zero =>
    intro f r hf hr
    obtain ⟨f, rfl⟩ : ∃ g, f = g + 1 := ⟨f - 1, by omega⟩
    refine ⟨fun _ => by rw [rea_isWhole_27.eq_2, if_pos (by omega)], fun q => absurd (fun k k1 k2 => by omega) q⟩
  | succ m ih =>
    intro f r hf hr
    obtain ⟨f, rfl⟩ : ∃ g, f = g + 1 := ⟨f - 1, by omega⟩
    obtain ⟨i1, i2⟩ := ih f (r + 1) (by omega) (by omega)
    have dv := dv3 ⟨r, by omega⟩
    simp only at dv
    have b4 := b3 r (by omega)
    have h3 := (D.d3 ((r / 3 : Nat) : Int) (by omega) (by omega)).1
    rw [Int.toNat_natCast] at h3
    have st : rea_isWhole_73 (rea_isWhole_27 f) (r : Int) μ = rea_isWhole_27 f ((r + 1 : Nat) : Int) μ := by
      rw [rea_isWhole_73.eq_1, wI_id (by omega)]
      rfl
    have hb : lCmp (lAnd (lShr (μ 25 10) (r : Int)) 1) 0 = 0 ↔ ¬ ν 73 r = 1 := by
      rw [lCmp0, b1, lBit (by omega) (by omega), b4.2]
      by_cases z : ν 73 r = 1 <;> simp [z]
    have hs : rea_isWhole_27 (f + 1) (r : Int) μ = if ν 73 r = 1 then ((some (if (((r / 3 : Nat) : Int) ≤ μ 27 9) ∧ (ν 70 (r / 3) = -4 ∨ ν 70 (r / 3) = ((r % 3 : Nat) : Int)) then (1 : Int) else 0)).bind fun u1 => if u1 = 0 then some (0, mset (mset μ 25 3 7) 25 4 (μ 25 1)) else rea_isWhole_27 f ((r + 1 : Nat) : Int) μ) else rea_isWhole_27 f ((r + 1 : Nat) : Int) μ := by
      rw [rea_isWhole_27.eq_2, if_neg (by omega)]
      by_cases z : ν 73 r = 1
      · rw [if_neg (fun q => hb.mp q z), if_pos z, dv.1, dv.2, hasRut_eq (by omega), refuse_eq, Option.bind_some, st]
        congr 1
        rw [Int.toNat_natCast, show (27 + 1 : Nat) = 28 from rfl, h3]
        congr 1
        by_cases y : (((r / 3 : Nat) : Int) ≤ μ 27 9) ∧ (ν 70 (r / 3) = -4 ∨ ν 70 (r / 3) = ((r % 3 : Nat) : Int))
        · rw [if_pos y, if_pos ⟨⟨by omega, y.1⟩, by omega, y.2⟩]
        · rw [if_neg y, if_neg (fun q => y ⟨q.1.2, q.2.2⟩)]
      · rw [if_pos (hb.mpr z), if_neg z, st]
    have nxt : gdR ν r → ((∀ k : Nat, r ≤ k → k < 63 → gdR ν k) ↔ (∀ k : Nat, r + 1 ≤ k → k < 63 → gdR ν k)) := fun g => ⟨fun q k k1 k2 => q k (by omega) k2, fun q k k1 k2 => by
      by_cases z : k = r
      · rw [z]; exact g
      · exact q k (by omega) k2⟩
    rw [hs]
    by_cases z : ν 73 r = 1
    · rw [if_pos z]
      have h15 := d15 r (by omega) z
      by_cases y : ν 70 (r / 3) = -4 ∨ ν 70 (r / 3) = ((r % 3 : Nat) : Int)
      · rw [tT ⟨by omega, y⟩, nxt (Or.inr y)]
        exact ⟨i1, i2⟩
      · rw [tF (fun q => y q.2)]
        have ng : ¬ gdR ν r := fun q => by
          rcases q with q | q
          · omega
          · exact y q
        exact ⟨fun q => absurd (q r (by omega) (by omega)) ng, fun _ => rfl⟩
    · rw [if_neg z, nxt (Or.inl (by omega))]
      exact ⟨i1, i2⟩
