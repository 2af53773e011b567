/-! ===== text: both sides between tokens ===== -/
def Rdy (B : Int → Int) (n : Int) (μ ν : Mem) : Prop := TpC μ B n ∧ TpM ν B n ∧ (0 ≤ μ 25 7 ∧ μ 25 7 ≤ n) ∧ μ 25 3 = 0 ∧ ∃ fr so en va bad, Tok B n (μ 25 7) fr so en va bad ∧ Nxt ν fr so en va bad
def Had (B : Int → Int) (n : Int) (μ ν : Mem) : Prop := TpC μ B n ∧ TpM ν B n ∧ μ 25 3 = 0 ∧ ν 61 23 = 0 ∧ (μ 25 6 = ν 61 20 ∧ μ 25 5 = ν 61 21 ∧ μ 25 7 = ν 61 19) ∧ (0 ≤ μ 25 6 ∧ μ 25 6 ≤ μ 25 7 ∧ μ 25 7 ≤ n) ∧ ∃ p va, 0 ≤ p ∧ Tok B n p (μ 25 6) (μ 25 5) (μ 25 7) va 0 ∧ (μ 25 5 = 2 → ν 61 22 = va)
def Bad (μ ν : Mem) : Prop := 0 < ν 61 23 ∧ μ 25 3 = ν 61 23 ∧ μ 25 4 = ν 61 24 ∧ (0 ≤ ν 61 24 ∧ ν 61 24 ≤ 400)
def FrC (μ μ' : Mem) : Prop := (∀ j, j ≤ 7 → μ' 25 j = μ 25 j) ∧ μ' 26 = μ 26
def FrM (ν ν' : Mem) : Prop := (∀ j, 18 ≤ j → j ≤ 24 → ν' 61 j = ν 61 j) ∧ ν' 74 = ν 74
theorem FrC.rf {μ : Mem} : FrC μ μ := ⟨fun _ _ => rfl, rfl⟩
theorem FrM.rf {μ : Mem} : FrM μ μ := ⟨fun _ _ _ => rfl, rfl⟩
theorem FrC.set {μ μ' : Mem} {k i : Nat} {v : Int} (hk : (k ≠ 25 ∨ 7 < i) ∧ k ≠ 26) (h : FrC μ μ') : FrC μ (mset μ' k i v) := ⟨fun j hj => by rw [mset_ne (by omega)]; exact h.1 j hj, by rw [mset_off (by omega)]; exact h.2⟩
theorem FrM.set {μ μ' : Mem} {k i : Nat} {v : Int} (hk : (k ≠ 61 ∨ i < 18 ∨ 24 < i) ∧ k ≠ 74) (h : FrM μ μ') : FrM μ (mset μ' k i v) := ⟨fun j hj hj' => by rw [mset_ne (by omega)]; exact h.1 j hj hj', by rw [mset_off (by omega)]; exact h.2⟩
theorem Rdy.fr {B : Int → Int} {n : Int} {μ ν μ' ν' : Mem} (hc : FrC μ μ') (hm : FrM ν ν') (H : Rdy B n μ ν) : Rdy B n μ' ν' := by
  obtain ⟨h1, h2, h3, h4, fr, so, en, va, bad, h5, h6⟩ := H
  have e7 := hc.1 7 (by omega)
  refine ⟨h1.off (hc.1 1 (by omega)) hc.2, h2.off (hm.1 18 (by omega) (by omega)) hm.2, by omega, by rw [hc.1 3 (by omega)]; exact h4, fr, so, en, va, bad, by rw [e7]; exact h5, ?_⟩
  unfold Nxt at *
  rw [hm.1 20 (by omega) (by omega), hm.1 23 (by omega) (by omega), hm.1 21 (by omega) (by omega), hm.1 19 (by omega) (by omega), hm.1 22 (by omega) (by omega), hm.1 24 (by omega) (by omega)]
  exact h6
theorem Had.fr {B : Int → Int} {n : Int} {μ ν μ' ν' : Mem} (hc : FrC μ μ') (hm : FrM ν ν') (H : Had B n μ ν) : Had B n μ' ν' := by
  obtain ⟨h1, h2, h3, h4, h5, h6, h7⟩ := H
  refine ⟨h1.off (hc.1 1 (by omega)) hc.2, h2.off (hm.1 18 (by omega) (by omega)) hm.2, by rw [hc.1 3 (by omega)]; exact h3, by rw [hm.1 23 (by omega) (by omega)]; exact h4, ?_, ?_, ?_⟩
  · rw [hc.1 6 (by omega), hc.1 5 (by omega), hc.1 7 (by omega), hm.1 20 (by omega) (by omega), hm.1 21 (by omega) (by omega), hm.1 19 (by omega) (by omega)]; exact h5
  · rw [hc.1 6 (by omega), hc.1 7 (by omega)]; exact h6
  · rw [hc.1 6 (by omega), hc.1 5 (by omega), hc.1 7 (by omega), hm.1 22 (by omega) (by omega)]; exact h7
theorem Bad.fr {μ ν μ' ν' : Mem} (hc : FrC μ μ') (hm : FrM ν ν') (H : Bad μ ν) : Bad μ' ν' := by
  unfold Bad at *
  rw [hc.1 3 (by omega), hc.1 4 (by omega), hm.1 23 (by omega) (by omega), hm.1 24 (by omega) (by omega)]
  exact H
theorem Tok_en {B : Int → Int} {n p fr so en va bad : Int} (h : Tok B n p fr so en va bad) : p ≤ fr ∧ fr ≤ en ∧ en ≤ n ∧ (bad = 0 ∨ bad = 1) ∧ (so = 1 → fr < en) := by
  obtain ⟨⟨t1, t2⟩, t3, t4⟩ := h
  rcases t4 with z | ⟨z1, z2, z⟩
  · omega
  · rcases z with z | z | z | z <;> omega
theorem L_take {B : Int → Int} {n : Int} {μ ν : Mem} (H : Rdy B n μ ν) : ∃ u μ', rea_takeToken μ = some (u, μ') ∧ Off M25 μ μ' ∧ μ 25 7 ≤ μ' 25 7 ∧ (u = 1 ∧ Had B n μ' ν ∨ u = 0 ∧ Bad μ' ν) := by
  obtain ⟨h1, h2, h3, h4, fr, so, en, va, bad, h5, h6⟩ := H
  obtain ⟨μ', k1, k2, k3, k4, k5, k6, k7⟩ := ctake h1 rfl h3.1 h5
  have ht := Tok_en h5
  have hn := h1.2.1
  refine ⟨_, μ', k1, k2, by omega, ?_⟩
  rcases ht.2.2.2.1 with z | z
  · left
    have q := h6.2.1 z
    refine ⟨by omega, h1.off (k2 _ _ (by unfold M25; omega)) (k2.cell (fun j => by unfold M25; omega)), h2, (k6 z).trans h4, q.1, ⟨by rw [k3, h6.1], by rw [k4, q.2.1], by rw [k5, q.2.2.1]⟩, by omega, μ 25 7, va, h3.1, ?_, ?_⟩
    · rw [k3, k4, k5, ← z]; exact h5
    · rw [k4]; exact q.2.2.2
  · right
    have q := h6.2.2 z
    have q' := k7 z
    exact ⟨by omega, by omega, by omega, by omega, by omega⟩
theorem L_next {B : Int → Int} {n : Int} {μ ν : Mem} (H : Had B n μ ν) : ∃ ν', mod_next ν = some ν' ∧ Off M61 ν ν' ∧ Rdy B n μ ν' := by
  obtain ⟨h1, h2, h3, h4, h5, h6, h7⟩ := H
  obtain ⟨fr, so, en, va, bad, hT⟩ := Tok_ex B (n := n) (p := μ 25 7) ⟨by omega, by omega⟩
  obtain ⟨ν', k1, k2, k3⟩ := mnext h2 h5.2.2.symm (by omega) h4 hT
  exact ⟨ν', k1, k2, h1, h2.off (k2 _ _ (by unfold M61; omega)) (k2.cell (fun j => by unfold M61; omega)), by omega, h3, fr, so, en, va, bad, hT, k3⟩
theorem Rdy.sick {B : Int → Int} {n : Int} {μ ν : Mem} (H : Rdy B n μ ν) : ν 61 23 = 0 ∨ 0 < ν 61 23 := by
  obtain ⟨h1, h2, h3, h4, fr, so, en, va, bad, h5, h6⟩ := H
  rcases (Tok_en h5).2.2.2.1 with z | z
  · exact Or.inl (h6.2.1 z).1
  · right; have := (h6.2.2 z).1; omega
theorem looked_sick {a b : Int} {ν : Mem} (h : 0 < ν 61 23) : mod_looked a b ν = some (0, ν) := by
  rw [mod_looked.eq_1, if_neg (by omega), mod_looked_25.eq_1, if_neg (by omega), mod_looked_49.eq_1, if_neg (by omega)]
theorem readNumber_sick {a b : Int} {ν : Mem} (h : 0 < ν 61 23) : mod_readNumber a b ν = some (0, ν) := by
  rw [mod_readNumber.eq_1, looked_sick h, Option.bind_some, mnext_sick h, Option.bind_some]
def sickM (ν : Mem) (k : Int) : Mem := mset (mset ν 61 23 k) 61 24 (ν 61 20)
theorem sickM_off {ν : Mem} {k : Int} : Off M61 ν (sickM ν k) := (Off.rf.set (by unfold M61; omega)).set (by unfold M61; omega)
theorem sickM_23 {ν : Mem} {k : Int} : sickM ν k 61 23 = k := by unfold sickM; rw [mset_ne (by omega), mset_same]
theorem sickM_24 {ν : Mem} {k : Int} : sickM ν k 61 24 = ν 61 20 := mset_same
theorem refuse_eq (k p : Int) (μ : Mem) : rea_refuse k p μ = some (0, mset (mset μ 25 3 k) 25 4 p) := rfl
theorem Had.bad {B : Int → Int} {n : Int} {μ ν : Mem} (H : Had B n μ ν) {k : Int} (hk : 0 < k) : Bad (mset (mset μ 25 3 k) 25 4 (μ 25 6)) (sickM ν k) := by
  obtain ⟨h1, h2, h3, h4, h5, h6, h7⟩ := H
  have hn := h1.2.1
  unfold Bad
  rw [sickM_23, sickM_24, mset_same, mset_ne (k' := 25) (i' := 3) (by omega), mset_same]
  exact ⟨hk, rfl, h5.1, by omega, by omega⟩
theorem rf_off {μ : Mem} {k p : Int} : Off M25 μ (mset (mset μ 25 3 k) 25 4 p) := (Off.rf.set (by unfold M25; omega)).set (by unfold M25; omega)
theorem rf_7 {μ : Mem} {k p : Int} : mset (mset μ 25 3 k) 25 4 p 25 7 = μ 25 7 := by rw [mset_ne (by omega), mset_ne (by omega)]
theorem cnum34 {B : Int → Int} {n a b p va : Int} {μ : Mem} (h1 : TpC μ B n) (h5 : μ 25 5 = 2) (h0 : 0 ≤ p) (hT : Tok B n p (μ 25 6) (μ 25 5) (μ 25 7) va 0) : rea_takeNumber_34 a b 1 μ = rea_takeNumber_80 a b 1 va μ ∧ 0 ≤ va ∧ va ≤ 99 := by
  have hB := BIG_gt
  obtain ⟨⟨t1, t2⟩, t3, t4⟩ := hT
  have hn := h1.2.1
  obtain ⟨g, hg⟩ : ∃ g, BIG = g + 3 := ⟨BIG - 3, by omega⟩
  have z := t4.resolve_left (by omega)
  obtain ⟨z1, z2, z3⟩ := z
  have y := (z3.resolve_left (by omega)).resolve_right (by omega)
  obtain ⟨y1, y2, y3, y4, y5, y6⟩ := y
  have st : ∀ (f : Nat) (v x : Int), μ 25 6 ≤ x → x < μ 25 7 → 0 ≤ v → v ≤ 9 → rea_takeNumber_44 (f + 1) a b 1 v x μ = rea_takeNumber_44 f a b 1 (10 * v + (B x - 48)) (x + 1) μ := fun f v x x1 x2 v1 v2 => by
    have d := y4 x x1 x2
    unfold dig at d
    rw [rea_takeNumber_44.eq_2, if_neg (by omega), if_neg (by omega), byteAt_in h1 (by omega), Option.bind_some, if_pos (by omega), bnd.eq_1, wI_id (x := 10 * v) (by omega), wI_id (x := 10 * v + B x) (by omega), wI_id (x := 10 * v + B x - 48) (by omega), wI_id (by omega), show 10 * v + B x - 48 = 10 * v + (B x - 48) by omega]
  have fin : ∀ (f : Nat) (v : Int), rea_takeNumber_44 (f + 1) a b 1 v (μ 25 7) μ = rea_takeNumber_80 a b 1 v μ := fun f v => by
    rw [rea_takeNumber_44.eq_2, if_neg (by omega), if_pos (by omega)]
  have d0 := y4 (μ 25 6) (by omega) (by omega)
  unfold dig at d0
  rw [rea_takeNumber_34.eq_1, bnd.eq_1, hg]
  rcases y6 with q | q | q
  · rw [st _ 0 _ (by omega) (by omega) (by omega) (by omega), show μ 25 6 + 1 = μ 25 7 by omega, fin, show 10 * 0 + (B (μ 25 6) - 48) = va by omega]
    exact ⟨rfl, by omega, by omega⟩
  · have d1 := y4 (μ 25 6 + 1) (by omega) (by omega)
    unfold dig at d1
    rw [st _ 0 _ (by omega) (by omega) (by omega) (by omega), st _ _ _ (by omega) (by omega) (by omega) (by omega), show μ 25 6 + 1 + 1 = μ 25 7 by omega, fin, show 10 * (10 * 0 + (B (μ 25 6) - 48)) + (B (μ 25 6 + 1) - 48) = va by omega]
    exact ⟨rfl, by omega, by omega⟩
  · omega
theorem L_num {B : Int → Int} {n : Int} {μ ν : Mem} (a b : Int) (H : Rdy B n μ ν) : ∃ u μ' w ν', rea_takeNumber a b μ = some (u, μ') ∧ mod_looked a b ν = some (w, ν') ∧ Off M25 μ μ' ∧ Off M61 ν ν' ∧ μ 25 7 ≤ μ' 25 7 ∧ ((a ≤ u ∧ u ≤ b) ∧ w = u ∧ Had B n μ' ν' ∨ u = -1 ∧ w = 0 ∧ Bad μ' ν') := by
  obtain ⟨u, μ1, k1, k2, k3, k4⟩ := L_take H
  have hB := BIG_gt
  rcases k4 with ⟨q1, q2⟩ | ⟨q1, q2⟩
  · have q2' := q2
    obtain ⟨h1, h2, h3, h4, h5, h6, p, va, h7, h8, h9⟩ := q2'
    by_cases s : μ1 25 5 = 2
    · obtain ⟨c1, c2⟩ := cnum34 (a := a) (b := b) h1 s h7 h8
      have hl : mod_looked a b ν = (mod_needs (if a ≤ va ∧ va ≤ b then 1 else 0) 3 ν).bind fun μ2 => mod_looked_49 μ2 := by
        rw [mod_looked.eq_1, if_pos h4, if_pos (by omega), mod_looked_21.eq_1, needs1, Option.bind_some, mod_looked_25.eq_1, if_pos h4, in_eq, Option.bind_some, h9 s]
      have hc : rea_takeNumber a b μ = rea_takeNumber_80 a b 1 va μ1 := by
        rw [rea_takeNumber.eq_1, k1, Option.bind_some]
        show (if u = 0 then _ else if μ1 25 5 = 2 then _ else _) = _
        rw [if_neg (by omega), if_pos s]
        exact c1
      by_cases r : a ≤ va ∧ va ≤ b
      · refine ⟨va, μ1, va, ν, ?_, ?_, k2, Off.rf, k3, Or.inl ⟨r, rfl, q2⟩⟩
        · rw [hc, rea_takeNumber_80.eq_1, if_neg (by omega), if_neg (by omega), if_pos (by omega), rea_takeNumber_113.eq_1, if_neg (by omega)]
        · rw [hl, if_pos r, needs1, Option.bind_some, mod_looked_49.eq_1, if_pos h4, h9 s]
      · refine ⟨-1, mset (mset μ1 25 3 3) 25 4 (μ1 25 6), 0, sickM ν 3, ?_, ?_, k2.tr rf_off, sickM_off, by rw [rf_7]; exact k3, Or.inr ⟨rfl, rfl, q2.bad (by omega)⟩⟩
        · have e : rea_takeNumber_96 rea_takeNumber_113 va μ1 = some (-1, mset (mset μ1 25 3 3) 25 4 (μ1 25 6)) := by
            rw [rea_takeNumber_96.eq_1, refuse_eq, Option.bind_some]
            rfl
          rw [hc, rea_takeNumber_80.eq_1, if_neg (by omega), e]
          by_cases y : va < a
          · rw [if_pos y]
          · rw [if_neg y, if_neg (by omega)]
        · rw [hl, if_neg r, needs0 h4, Option.bind_some, mod_looked_49.eq_1]
          show (if sickM ν 3 61 23 = 0 then _ else _) = _
          rw [sickM_23, if_neg (by omega)]
          rfl
    · refine ⟨-1, mset (mset μ1 25 3 2) 25 4 (μ1 25 6), 0, sickM ν 2, ?_, ?_, k2.tr rf_off, sickM_off, by rw [rf_7]; exact k3, Or.inr ⟨rfl, rfl, q2.bad (by omega)⟩⟩
      · obtain ⟨g, hg⟩ : ∃ g, BIG = g + 1 := ⟨BIG - 1, by omega⟩
        rw [rea_takeNumber.eq_1, k1, Option.bind_some]
        show (if u = 0 then _ else if μ1 25 5 = 2 then _ else (rea_refuse 2 (μ1 25 6) μ1).bind _) = _
        rw [if_neg (by omega), if_neg s, refuse_eq, Option.bind_some]
        show (if (0 : Int) = 0 then rea_takeNumber_34 a b 0 (mset (mset μ1 25 3 2) 25 4 (μ1 25 6)) else _) = _
        rw [if_pos rfl, rea_takeNumber_34.eq_1, bnd.eq_1, hg, rea_takeNumber_44.eq_2, if_pos rfl, rea_takeNumber_80.eq_1, if_pos rfl, rea_takeNumber_113.eq_1, if_pos rfl]
      · have e : mod_looked_25 a b (sickM ν 2) = some (0, sickM ν 2) := by
          rw [mod_looked_25.eq_1, sickM_23, if_neg (by omega), mod_looked_49.eq_1, sickM_23, if_neg (by omega)]
        rw [mod_looked.eq_1, if_pos h4, if_neg (by omega), mod_looked_21.eq_1, needs0 h4, Option.bind_some]
        exact e
  · refine ⟨-1, μ1, 0, ν, ?_, looked_sick q2.1, k2, Off.rf, k3, Or.inr ⟨rfl, rfl, q2⟩⟩
    rw [rea_takeNumber.eq_1, k1, Option.bind_some]
    show (if u = 0 then _ else _) = _
    rw [if_pos q1]
theorem L_rnum {B : Int → Int} {n : Int} {μ ν : Mem} (a b : Int) (H : Rdy B n μ ν) : ∃ u μ' w ν', rea_takeNumber a b μ = some (u, μ') ∧ mod_readNumber a b ν = some (w, ν') ∧ Off M25 μ μ' ∧ Off M61 ν ν' ∧ μ 25 7 ≤ μ' 25 7 ∧ ((a ≤ u ∧ u ≤ b) ∧ w = u ∧ Rdy B n μ' ν' ∨ u = -1 ∧ w = 0 ∧ Bad μ' ν') := by
  obtain ⟨u, μ1, w, ν1, k1, k2, k3, k4, k5, k6⟩ := L_num a b H
  rcases k6 with ⟨q1, q2, q3⟩ | ⟨q1, q2, q3⟩
  · obtain ⟨ν2, x1, x2, x3⟩ := L_next q3
    exact ⟨u, μ1, w, ν2, k1, by rw [mod_readNumber.eq_1, k2, Option.bind_some, x1, Option.bind_some], k3, k4.tr x2, k5, Or.inl ⟨q1, q2, x3⟩⟩
  · exact ⟨u, μ1, w, ν1, k1, by rw [mod_readNumber.eq_1, k2, Option.bind_some, mnext_sick q3.1, Option.bind_some], k3, k4, k5, Or.inr ⟨q1, q2, q3⟩⟩
def signR (ν : Mem) : Option Mem := if (ν 61 23) = 0 then (if (ν 61 21) = 3 then (mod_readLine_119 mod_readLine_123 1 ν) else (mod_readLine_119 mod_readLine_123 0 ν)) else (mod_readLine_123 ν)
theorem readLine123_sick {ν : Mem} (h : 0 < ν 61 23) : mod_readLine_123 ν = some ν := by
  rw [mod_readLine_123.eq_1, mnext_sick h, Option.bind_some]
theorem signR_sick {ν : Mem} (h : 0 < ν 61 23) : signR ν = some ν := by
  unfold signR
  rw [if_neg (by omega), readLine123_sick h]
theorem L_sign {B : Int → Int} {n : Int} {μ ν : Mem} (H : Rdy B n μ ν) : ∃ u μ' ν', rea_takeSign μ = some (u, μ') ∧ signR ν = some ν' ∧ Off M25 μ μ' ∧ Off M61 ν ν' ∧ μ 25 7 ≤ μ' 25 7 ∧ (u = 1 ∧ Rdy B n μ' ν' ∨ u = 0 ∧ Bad μ' ν') := by
  obtain ⟨u, μ1, k1, k2, k3, k4⟩ := L_take H
  rcases k4 with ⟨q1, q2⟩ | ⟨q1, q2⟩
  · have h4 := q2.2.2.2.1
    have h5 := q2.2.2.2.2.1
    have hc : rea_takeSign μ = if μ1 25 5 = 3 then some (1, μ1) else some (0, mset (mset μ1 25 3 2) 25 4 (μ1 25 6)) := by
      rw [rea_takeSign.eq_1, k1, Option.bind_some]
      show (if u = 0 then _ else if μ1 25 5 = 3 then _ else (rea_refuse 2 (μ1 25 6) μ1).bind _) = _
      rw [if_neg (by omega), refuse_eq, Option.bind_some]
      rfl
    by_cases s : μ1 25 5 = 3
    · obtain ⟨ν2, x1, x2, x3⟩ := L_next q2
      refine ⟨1, μ1, ν2, by rw [hc, if_pos s], ?_, k2, x2, k3, Or.inl ⟨rfl, x3⟩⟩
      unfold signR
      rw [if_pos h4, if_pos (by omega), mod_readLine_119.eq_1, needs1, Option.bind_some, mod_readLine_123.eq_1, x1, Option.bind_some]
    · refine ⟨0, mset (mset μ1 25 3 2) 25 4 (μ1 25 6), sickM ν 2, by rw [hc, if_neg s], ?_, k2.tr rf_off, sickM_off, by rw [rf_7]; exact k3, Or.inr ⟨rfl, q2.bad (by omega)⟩⟩
      have e : mod_readLine_123 (sickM ν 2) = some (sickM ν 2) := readLine123_sick (by rw [sickM_23]; omega)
      unfold signR
      rw [if_pos h4, if_neg (by omega), mod_readLine_119.eq_1, needs0 h4, Option.bind_some]
      exact e
  · refine ⟨0, μ1, ν, ?_, signR_sick q2.1, k2, Off.rf, k3, Or.inr ⟨rfl, q2⟩⟩
    rw [rea_takeSign.eq_1, k1, Option.bind_some]
    show (if u = 0 then _ else _) = _
    rw [if_pos q1]
