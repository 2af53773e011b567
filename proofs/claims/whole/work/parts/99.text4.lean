/-! ===== text: names ===== -/
def nm (B : Int → Int) : Int → List Int → Prop
  | _, [] => True
  | p, a :: t => B p = a ∧ nm B (p + 1) t
def W5 (B : Int → Int) (fr en L a b c x y z : Int) : Prop := en - fr = L ∧ B fr = a ∧ B (fr + 1) = b ∧ B (fr + 2) = c ∧ (x = 0 ∨ B (fr + 3) = x) ∧ (y = 0 ∨ B (fr + 4) = y) ∧ (z = 0 ∨ B (fr + 5) = z)
def Wd (B : Int → Int) (fr en : Int) (j : Nat) : Prop := (j = 0 ∧ W5 B fr en 5 121 97 114 100 115 0) ∨ (j = 1 ∧ W5 B fr en 3 98 111 103 0 0 0) ∨ (j = 2 ∧ W5 B fr en 4 104 105 108 108 0 0) ∨ (j = 3 ∧ W5 B fr en 5 115 109 105 116 104 0) ∨ (j = 4 ∧ W5 B fr en 4 116 111 108 108 0 0) ∨ (j = 5 ∧ W5 B fr en 3 114 117 116 0 0 0) ∨ (j = 6 ∧ W5 B fr en 5 102 114 111 115 116 0) ∨ (j = 7 ∧ W5 B fr en 4 99 97 114 116 0 0) ∨ (j = 8 ∧ W5 B fr en 4 99 111 115 116 0 0) ∨ (j = 9 ∧ W5 B fr en 5 112 108 97 105 110 0) ∨ (j = 10 ∧ W5 B fr en 6 100 111 117 98 108 101) ∨ (j = 11 ∧ W5 B fr en 6 115 108 101 100 103 101) ∨ (j = 12 ∧ W5 B fr en 5 104 105 114 101 100 0) ∨ (j = 13 ∧ W5 B fr en 8 115 109 117 103 103 108 ∧ B (fr + 6) = 101 ∧ B (fr + 7) = 114)
theorem chr_cl : ∀ j : Fin 14, ∀ i : Fin 9, i.1 < (roTx.getD j.1 []).length → str_charAt j.1 (fun _ _ => 0) (i.1 : Int) = some ((roTx.getD j.1 []).getD i.1 0) := by decide
theorem chr_lt : ∀ j : Fin 14, (roTx.getD j.1 []).length ≤ 8 ∧ ∀ i : Fin 9, i.1 < (roTx.getD j.1 []).length → 97 ≤ (roTx.getD j.1 []).getD i.1 0 ∧ (roTx.getD j.1 []).getD i.1 0 ≤ 122 := by decide
theorem len_cl : ∀ j : Fin 14, str_length j.1 (fun _ _ => 0) = some ((roTx.getD j.1 []).length : Int) := by decide
theorem chr_any (j : Nat) (μ : Mem) (x : Int) : str_charAt j μ x = str_charAt j (fun _ _ => 0) x := rfl
theorem len_any (j : Nat) (μ : Mem) : str_length j μ = str_length j (fun _ _ => 0) := rfl
theorem nm_drop (B : Int → Int) : ∀ (L : List Int) (p : Int) (k : Nat), k < L.length → (nm B p (L.drop k) ↔ B p = L.getD k 0 ∧ nm B (p + 1) (L.drop (k + 1))) := by
  intro L p k hk
  have e : L.getD k 0 = L[k] := by simp [List.getD, hk]
  rw [List.drop_eq_getElem_cons hk, nm, e]
theorem isName28 {μ : Mem} {B : Int → Int} {n : Int} {j : Nat} (hj : j < 14) (h1 : TpC μ B n) (h6 : 0 ≤ μ 25 6) (hn : μ 25 6 + ((roTx.getD j []).length : Int) ≤ n) : ∀ (m f k : Nat), m < f → k + m = (roTx.getD j []).length → (nm B (μ 25 6 + k) ((roTx.getD j []).drop k) → rea_isName_28 j μ f (k : Int) = some 1) ∧ (¬ nm B (μ 25 6 + k) ((roTx.getD j []).drop k) → rea_isName_28 j μ f (k : Int) = some 0) := by
  have hl : str_length j μ = some ((roTx.getD j []).length : Int) := (len_any j μ).trans (len_cl ⟨j, hj⟩)
  have h8 := (chr_lt ⟨j, hj⟩).1
  intro m
  induction m with
  | zero =>
    intro f k hf hk
    obtain ⟨f, rfl⟩ : ∃ g, f = g + 1 := ⟨f - 1, by omega⟩
    have e : rea_isName_28 j μ (f + 1) (k : Int) = some 1 := by rw [rea_isName_28.eq_2, hl, Option.bind_some, if_pos (by omega)]
    refine ⟨fun _ => e, fun q => absurd ?_ q⟩
    rw [List.drop_eq_nil_of_le (by omega)]
    trivial
  | succ m ih =>
    intro f k hf hk
    obtain ⟨f, rfl⟩ : ∃ g, f = g + 1 := ⟨f - 1, by omega⟩
    have hn' := h1.2.1
    have hc : str_charAt j μ (k : Int) = some ((roTx.getD j []).getD k 0) := (chr_any j μ _).trans (chr_cl ⟨j, hj⟩ ⟨k, by simp only at h8; omega⟩ (by show k < (roTx.getD j []).length; omega))
    have hr : 97 ≤ (roTx.getD j []).getD k 0 ∧ (roTx.getD j []).getD k 0 ≤ 122 := (chr_lt ⟨j, hj⟩).2 ⟨k, by simp only at h8; omega⟩ (by show k < (roTx.getD j []).length; omega)
    have hb := (h1.2.2 (μ 25 6 + k) (by omega) (by omega)).1
    rw [nm_drop B _ _ k (by omega), rea_isName_28.eq_2, hl, Option.bind_some, if_neg (by omega), wI_id (by omega), byteAt_in h1 (by omega), Option.bind_some, hc, Option.bind_some, wI_id (x := (k : Int) + 1) (by simp only at h8; omega), show (k : Int) + 1 = ((k + 1 : Nat) : Int) by omega, show μ 25 6 + (k : Int) + 1 = μ 25 6 + ((k + 1 : Nat) : Int) by omega]
    by_cases z : B (μ 25 6 + k) = (roTx.getD j []).getD k 0
    · rw [if_pos (by omega)]
      obtain ⟨i1, i2⟩ := ih f (k + 1) (by omega) (by omega)
      exact ⟨fun q => i1 q.2, fun q => i2 (fun w => q ⟨z, w⟩)⟩
    · rw [if_neg (by omega)]
      exact ⟨fun q => absurd q.1 z, fun _ => rfl⟩
theorem isName_nm {μ : Mem} {B : Int → Int} {n : Int} {j : Nat} (hj : j < 14) (h1 : TpC μ B n) (h6 : 0 ≤ μ 25 6 ∧ μ 25 7 ≤ n ∧ μ 25 6 ≤ μ 25 7) : ((μ 25 5 = 1 ∧ μ 25 7 - μ 25 6 = ((roTx.getD j []).length : Int) ∧ nm B (μ 25 6) (roTx.getD j [])) → rea_isName j μ = some 1) ∧ (¬ (μ 25 5 = 1 ∧ μ 25 7 - μ 25 6 = ((roTx.getD j []).length : Int) ∧ nm B (μ 25 6) (roTx.getD j [])) → rea_isName j μ = some 0) := by
  have hB := BIG_gt
  have hn := h1.2.1
  have hl : str_length j μ = some ((roTx.getD j []).length : Int) := (len_any j μ).trans (len_cl ⟨j, hj⟩)
  have h8 := (chr_lt ⟨j, hj⟩).1
  rw [rea_isName.eq_1]
  by_cases z : μ 25 5 = 1
  · rw [if_pos z, hl, Option.bind_some, wI_id (by omega)]
    by_cases y : μ 25 7 - μ 25 6 = ((roTx.getD j []).length : Int)
    · rw [if_pos y]
      obtain ⟨i1, i2⟩ := isName28 hj h1 h6.1 (by omega) (roTx.getD j []).length BIG 0 (by simp only at h8; omega) (by omega)
      have e0 : ((0 : Nat) : Int) = 0 := rfl
      rw [List.drop_zero, e0, Int.add_zero] at i1 i2
      exact ⟨fun q => i1 q.2.2, fun q => i2 (fun w => q ⟨z, y, w⟩)⟩
    · rw [if_neg y]
      exact ⟨fun q => absurd q.2.1 y, fun _ => rfl⟩
  · rw [if_neg z]
    exact ⟨fun q => absurd q.1 z, fun _ => rfl⟩
theorem Wd_nm (B : Int → Int) (fr en : Int) : ∀ j : Nat, j < 14 → (Wd B fr en j ↔ (en - fr = ((roTx.getD j []).length : Int) ∧ nm B fr (roTx.getD j []))) := by
  intro j hj
  have hh : j = 0 ∨ j = 1 ∨ j = 2 ∨ j = 3 ∨ j = 4 ∨ j = 5 ∨ j = 6 ∨ j = 7 ∨ j = 8 ∨ j = 9 ∨ j = 10 ∨ j = 11 ∨ j = 12 ∨ j = 13 := by omega
  unfold Wd W5
  rcases hh with rfl | rfl | rfl | rfl | rfl | rfl | rfl | rfl | rfl | rfl | rfl | rfl | rfl | rfl
  all_goals
    simp [roTx, nm, Int.add_assoc, and_assoc]
theorem isName_eq {μ : Mem} {B : Int → Int} {n : Int} (j : Nat) (hj : j < 14) (h1 : TpC μ B n) (h6 : 0 ≤ μ 25 6 ∧ μ 25 7 ≤ n ∧ μ 25 6 ≤ μ 25 7) : ((μ 25 5 = 1 ∧ Wd B (μ 25 6) (μ 25 7) j) → rea_isName j μ = some 1) ∧ (¬ (μ 25 5 = 1 ∧ Wd B (μ 25 6) (μ 25 7) j) → rea_isName j μ = some 0) := by
  rw [Wd_nm B _ _ j hj]
  exact isName_nm hj h1 h6
theorem mis {ν : Mem} {B : Int → Int} {n fr en : Int} (h1 : TpM ν B n) (h20 : ν 61 20 = fr) (h19 : ν 61 19 = en) (h6 : 0 ≤ fr ∧ fr ≤ en ∧ en ≤ n) {L a b c : Int} (hL : 3 ≤ L) : (en - fr = L ∧ B fr = a ∧ B (fr + 1) = b ∧ B (fr + 2) = c → mod_is ν L a b c = some 1) ∧ (¬ (en - fr = L ∧ B fr = a ∧ B (fr + 1) = b ∧ B (fr + 2) = c) → mod_is ν L a b c = some 0) := by
  have hn := h1.2.1
  rw [mod_is.eq_1, h20, h19, wI_id (x := en - fr) (by omega)]
  by_cases z : en - fr = L
  · rw [if_pos z, look_in h1 (by omega), Option.bind_some, wI_id (x := fr + 1) (by omega), look_in h1 (by omega), Option.bind_some, wI_id (x := fr + 2) (by omega), look_in h1 (by omega), Option.bind_some]
    by_cases p1 : B fr = a
    · rw [if_pos p1]
      by_cases p2 : B (fr + 1) = b
      · rw [if_pos p2]
        by_cases p3 : B (fr + 2) = c
        · rw [if_pos p3]; exact ⟨fun _ => rfl, fun q => absurd ⟨z, p1, p2, p3⟩ q⟩
        · rw [if_neg p3]; exact ⟨fun q => absurd q.2.2.2 p3, fun _ => rfl⟩
      · rw [if_neg p2]; exact ⟨fun q => absurd q.2.2.1 p2, fun _ => rfl⟩
    · rw [if_neg p1]; exact ⟨fun q => absurd q.2.1 p1, fun _ => rfl⟩
  · rw [if_neg z]; exact ⟨fun q => absurd q.1 z, fun _ => rfl⟩
theorem mends {ν : Mem} {B : Int → Int} {n fr : Int} (h1 : TpM ν B n) (h20 : ν 61 20 = fr) (h6 : 0 ≤ fr) {x y z : Int} (hx : x = 0 ∨ fr + 3 < n) (hy : y = 0 ∨ fr + 4 < n) (hz : z = 0 ∨ fr + 5 < n) : ((x = 0 ∨ B (fr + 3) = x) ∧ (y = 0 ∨ B (fr + 4) = y) ∧ (z = 0 ∨ B (fr + 5) = z) → mod_ends ν x y z = some 1) ∧ (¬ ((x = 0 ∨ B (fr + 3) = x) ∧ (y = 0 ∨ B (fr + 4) = y) ∧ (z = 0 ∨ B (fr + 5) = z)) → mod_ends ν x y z = some 0) := by
  have hn := h1.2.1
  have e36 : (z = 0 ∨ B (fr + 5) = z → mod_ends_36 ν z = some 1) ∧ (¬ (z = 0 ∨ B (fr + 5) = z) → mod_ends_36 ν z = some 0) := by
    rw [mod_ends_36.eq_1]
    by_cases p : z = 0
    · rw [if_pos p]; exact ⟨fun _ => rfl, fun q => absurd (Or.inl p) q⟩
    · rw [if_neg p, h20, wI_id (x := fr + 5) (by omega), look_in h1 (by omega), Option.bind_some]
      by_cases w : B (fr + 5) = z
      · rw [if_pos w]; exact ⟨fun _ => rfl, fun q => absurd (Or.inr w) q⟩
      · rw [if_neg w]; exact ⟨fun q => by rcases q with q | q; exact absurd q p; exact absurd q w, fun _ => rfl⟩
  have e18 : ((y = 0 ∨ B (fr + 4) = y) ∧ (z = 0 ∨ B (fr + 5) = z) → mod_ends_18 ν y z = some 1) ∧ (¬ ((y = 0 ∨ B (fr + 4) = y) ∧ (z = 0 ∨ B (fr + 5) = z)) → mod_ends_18 ν y z = some 0) := by
    rw [mod_ends_18.eq_1]
    by_cases p : y = 0
    · rw [if_pos p]; exact ⟨fun q => e36.1 q.2, fun q => e36.2 (fun w => q ⟨Or.inl p, w⟩)⟩
    · rw [if_neg p, h20, wI_id (x := fr + 4) (by omega), look_in h1 (by omega), Option.bind_some]
      by_cases w : B (fr + 4) = y
      · rw [if_pos w]; exact ⟨fun q => e36.1 q.2, fun q => e36.2 (fun v => q ⟨Or.inr w, v⟩)⟩
      · rw [if_neg w]; exact ⟨fun q => by rcases q.1 with q | q; exact absurd q p; exact absurd q w, fun _ => rfl⟩
  rw [mod_ends.eq_1]
  by_cases p : x = 0
  · rw [if_pos p]; exact ⟨fun q => e18.1 q.2, fun q => e18.2 (fun w => q ⟨Or.inl p, w⟩)⟩
  · rw [if_neg p, h20, wI_id (x := fr + 3) (by omega), look_in h1 (by omega), Option.bind_some]
    by_cases w : B (fr + 3) = x
    · rw [if_pos w]; exact ⟨fun q => e18.1 q.2, fun q => e18.2 (fun v => q ⟨Or.inr w, v⟩)⟩
    · rw [if_neg w]; exact ⟨fun q => by rcases q.1 with q | q; exact absurd q p; exact absurd q w, fun _ => rfl⟩
theorem grp {ν : Mem} {B : Int → Int} {n fr en : Int} (h1 : TpM ν B n) (h20 : ν 61 20 = fr) (h19 : ν 61 19 = en) (h6 : 0 ≤ fr ∧ fr ≤ en ∧ en ≤ n) {L a b c x y z : Int} (hL : 3 ≤ L ∧ (x = 0 ∨ 4 ≤ L) ∧ (y = 0 ∨ 5 ≤ L) ∧ (z = 0 ∨ 6 ≤ L)) (A C : Option Int) : (W5 B fr en L a b c x y z → ((mod_is ν L a b c).bind fun u1 => if u1 = 0 then A else ((mod_ends ν x y z).bind fun u2 => if u2 = 0 then A else C)) = C) ∧ (¬ W5 B fr en L a b c x y z → ((mod_is ν L a b c).bind fun u1 => if u1 = 0 then A else ((mod_ends ν x y z).bind fun u2 => if u2 = 0 then A else C)) = A) := by
  obtain ⟨m1, m2⟩ := mis (L := L) (a := a) (b := b) (c := c) h1 h20 h19 h6 hL.1
  unfold W5
  by_cases p : en - fr = L ∧ B fr = a ∧ B (fr + 1) = b ∧ B (fr + 2) = c
  · obtain ⟨e1, e2⟩ := mends (x := x) (y := y) (z := z) h1 h20 h6.1 (by omega) (by omega) (by omega)
    rw [m1 p, Option.bind_some, if_neg (by omega)]
    by_cases q : (x = 0 ∨ B (fr + 3) = x) ∧ (y = 0 ∨ B (fr + 4) = y) ∧ (z = 0 ∨ B (fr + 5) = z)
    · rw [e1 q, Option.bind_some, if_neg (by omega)]
      exact ⟨fun _ => rfl, fun w => absurd ⟨p.1, p.2.1, p.2.2.1, p.2.2.2, q⟩ w⟩
    · rw [e2 q, Option.bind_some, if_pos rfl]
      exact ⟨fun w => absurd w.2.2.2.2 q, fun _ => rfl⟩
  · rw [m2 p, Option.bind_some, if_pos rfl]
    exact ⟨fun w => absurd ⟨w.1, w.2.1, w.2.2.1, w.2.2.2.1⟩ p, fun _ => rfl⟩
theorem lineNow_eq {ν : Mem} {B : Int → Int} {n fr en : Int} (h1 : TpM ν B n) (h20 : ν 61 20 = fr) (h19 : ν 61 19 = en) (h6 : 0 ≤ fr ∧ fr ≤ en ∧ en ≤ n) : (∀ j : Nat, j < 9 → Wd B fr en j → mod_lineNow ν = some (j : Int)) ∧ ((∀ j : Nat, j < 9 → ¬ Wd B fr en j) → mod_lineNow ν = some (-4)) := by
  have i3 : ∀ a b c : Int, (W5 B fr en 3 a b c 0 0 0 → mod_is ν 3 a b c = some 1) ∧ (¬ W5 B fr en 3 a b c 0 0 0 → mod_is ν 3 a b c = some 0) := fun a b c => by
    obtain ⟨m1, m2⟩ := mis (L := 3) (a := a) (b := b) (c := c) h1 h20 h19 h6 (by omega)
    unfold W5
    exact ⟨fun q => m1 (by omega), fun q => m2 (by omega)⟩
  have g4 := grp (L := 4) (a := 116) (b := 111) (c := 108) (x := 108) (y := 0) (z := 0) h1 h20 h19 h6 (by omega) (mod_lineNow_27 ν) (some 4)
  have g6 := grp (L := 5) (a := 102) (b := 114) (c := 111) (x := 115) (y := 116) (z := 0) h1 h20 h19 h6 (by omega) (mod_lineNow_72 ν) (some 6)
  have g7 := grp (L := 4) (a := 99) (b := 97) (c := 114) (x := 116) (y := 0) (z := 0) h1 h20 h19 h6 (by omega) (mod_lineNow_100 ν) (some 7)
  have g8 := grp (L := 4) (a := 99) (b := 111) (c := 115) (x := 116) (y := 0) (z := 0) h1 h20 h19 h6 (by omega) (mod_lineNow_130 ν) (some 8)
  have g0 := grp (L := 5) (a := 121) (b := 97) (c := 114) (x := 100) (y := 115) (z := 0) h1 h20 h19 h6 (by omega) (mod_roadLine_28 ν) (some 0)
  have g2 := grp (L := 4) (a := 104) (b := 105) (c := 108) (x := 108) (y := 0) (z := 0) h1 h20 h19 h6 (by omega) (mod_roadLine_71 ν) (some 2)
  have g3 := grp (L := 5) (a := 115) (b := 109) (c := 105) (x := 116) (y := 104) (z := 0) h1 h20 h19 h6 (by omega) (some (-4)) (some 3)
  have w0 : Wd B fr en 0 ↔ W5 B fr en 5 121 97 114 100 115 0 := by unfold Wd; simp
  have w1 : Wd B fr en 1 ↔ W5 B fr en 3 98 111 103 0 0 0 := by unfold Wd; simp
  have w2 : Wd B fr en 2 ↔ W5 B fr en 4 104 105 108 108 0 0 := by unfold Wd; simp
  have w3 : Wd B fr en 3 ↔ W5 B fr en 5 115 109 105 116 104 0 := by unfold Wd; simp
  have w4 : Wd B fr en 4 ↔ W5 B fr en 4 116 111 108 108 0 0 := by unfold Wd; simp
  have w5 : Wd B fr en 5 ↔ W5 B fr en 3 114 117 116 0 0 0 := by unfold Wd; simp
  have w6 : Wd B fr en 6 ↔ W5 B fr en 5 102 114 111 115 116 0 := by unfold Wd; simp
  have w7 : Wd B fr en 7 ↔ W5 B fr en 4 99 97 114 116 0 0 := by unfold Wd; simp
  have w8 : Wd B fr en 8 ↔ W5 B fr en 4 99 111 115 116 0 0 := by unfold Wd; simp
  have un : ∀ j k : Nat, j < 9 → k < 9 → Wd B fr en j → Wd B fr en k → j = k := fun j k hj hk h h' => by
    unfold Wd W5 at h h'
    omega
  have fin : ∀ v : Nat, v < 9 → Wd B fr en v → mod_lineNow ν = some (v : Int) → (∀ j : Nat, j < 9 → Wd B fr en j → mod_lineNow ν = some (j : Int)) ∧ ((∀ j : Nat, j < 9 → ¬ Wd B fr en j) → mod_lineNow ν = some (-4)) := fun v hv h e => ⟨fun j hj hw => by rw [un j v hj hv hw h]; exact e, fun q => absurd h (q v hv)⟩
  by_cases p4 : W5 B fr en 4 116 111 108 108 0 0
  · exact fin 4 (by omega) (w4.mpr p4) (by rw [mod_lineNow.eq_1]; exact g4.1 p4)
  have e1 : mod_lineNow ν = mod_lineNow_27 ν := by rw [mod_lineNow.eq_1]; exact g4.2 p4
  by_cases p5 : W5 B fr en 3 114 117 116 0 0 0
  · exact fin 5 (by omega) (w5.mpr p5) (by rw [e1, mod_lineNow_27.eq_1, (i3 _ _ _).1 p5, Option.bind_some, if_neg (by omega)]; rfl)
  have e2 : mod_lineNow ν = (mod_is ν 5 102 114 111).bind fun u2 => if u2 = 0 then (mod_lineNow_72 ν) else ((mod_ends ν 115 116 0).bind fun u3 => if u3 = 0 then (mod_lineNow_72 ν) else (some 6)) := by
    rw [e1, mod_lineNow_27.eq_1, (i3 _ _ _).2 p5, Option.bind_some, if_pos rfl]
  by_cases p6 : W5 B fr en 5 102 114 111 115 116 0
  · exact fin 6 (by omega) (w6.mpr p6) (e2.trans (g6.1 p6))
  have e3 : mod_lineNow ν = mod_lineNow_72 ν := e2.trans (g6.2 p6)
  by_cases p7 : W5 B fr en 4 99 97 114 116 0 0
  · exact fin 7 (by omega) (w7.mpr p7) (by rw [e3, mod_lineNow_72.eq_1]; exact g7.1 p7)
  have e4 : mod_lineNow ν = mod_lineNow_100 ν := by rw [e3, mod_lineNow_72.eq_1]; exact g7.2 p7
  by_cases p8 : W5 B fr en 4 99 111 115 116 0 0
  · exact fin 8 (by omega) (w8.mpr p8) (by rw [e4, mod_lineNow_100.eq_1]; exact g8.1 p8)
  have e5 : mod_lineNow ν = mod_roadLine ν := by
    rw [e4, mod_lineNow_100.eq_1]
    refine (g8.2 p8).trans ?_
    rw [mod_lineNow_130.eq_1]
    cases mod_roadLine ν <;> rfl
  by_cases p0 : W5 B fr en 5 121 97 114 100 115 0
  · exact fin 0 (by omega) (w0.mpr p0) (by rw [e5, mod_roadLine.eq_1]; exact g0.1 p0)
  have e6 : mod_lineNow ν = mod_roadLine_28 ν := by rw [e5, mod_roadLine.eq_1]; exact g0.2 p0
  by_cases p1 : W5 B fr en 3 98 111 103 0 0 0
  · exact fin 1 (by omega) (w1.mpr p1) (by rw [e6, mod_roadLine_28.eq_1, (i3 _ _ _).1 p1, Option.bind_some, if_neg (by omega)]; rfl)
  have e7 : mod_lineNow ν = (mod_is ν 4 104 105 108).bind fun u2 => if u2 = 0 then (mod_roadLine_71 ν) else ((mod_ends ν 108 0 0).bind fun u3 => if u3 = 0 then (mod_roadLine_71 ν) else (some 2)) := by
    rw [e6, mod_roadLine_28.eq_1, (i3 _ _ _).2 p1, Option.bind_some, if_pos rfl]
  by_cases p2 : W5 B fr en 4 104 105 108 108 0 0
  · exact fin 2 (by omega) (w2.mpr p2) (e7.trans (g2.1 p2))
  have e8 : mod_lineNow ν = mod_roadLine_71 ν := e7.trans (g2.2 p2)
  by_cases p3 : W5 B fr en 5 115 109 105 116 104 0
  · exact fin 3 (by omega) (w3.mpr p3) (by rw [e8, mod_roadLine_71.eq_1]; exact g3.1 p3)
  have e9 : mod_lineNow ν = some (-4) := by rw [e8, mod_roadLine_71.eq_1]; exact g3.2 p3
  refine ⟨fun j hj hw => ?_, fun _ => e9⟩
  exfalso
  have hh : j = 0 ∨ j = 1 ∨ j = 2 ∨ j = 3 ∨ j = 4 ∨ j = 5 ∨ j = 6 ∨ j = 7 ∨ j = 8 := by omega
  rcases hh with rfl | rfl | rfl | rfl | rfl | rfl | rfl | rfl | rfl
  · exact p0 (w0.mp hw)
  · exact p1 (w1.mp hw)
  · exact p2 (w2.mp hw)
  · exact p3 (w3.mp hw)
  · exact p4 (w4.mp hw)
  · exact p5 (w5.mp hw)
  · exact p6 (w6.mp hw)
  · exact p7 (w7.mp hw)
  · exact p8 (w8.mp hw)
theorem kindNow_eq {ν : Mem} {B : Int → Int} {n fr en : Int} (h1 : TpM ν B n) (h20 : ν 61 20 = fr) (h19 : ν 61 19 = en) (h6 : 0 ≤ fr ∧ fr ≤ en ∧ en ≤ n) : (∀ j : Nat, j < 5 → Wd B fr en (9 + j) → mod_kindNow ν = some (j : Int)) ∧ ((∀ j : Nat, j < 5 → ¬ Wd B fr en (9 + j)) → mod_kindNow ν = some (-4)) := by
  have hn := h1.2.1
  have g0 := grp (L := 5) (a := 112) (b := 108) (c := 97) (x := 105) (y := 110) (z := 0) h1 h20 h19 h6 (by omega) (mod_kindNow_28 ν) (some 0)
  have g1 := grp (L := 6) (a := 100) (b := 111) (c := 117) (x := 98) (y := 108) (z := 101) h1 h20 h19 h6 (by omega) (mod_kindNow_58 ν) (some 1)
  have g2 := grp (L := 6) (a := 115) (b := 108) (c := 101) (x := 100) (y := 103) (z := 101) h1 h20 h19 h6 (by omega) (mod_kindNow_88 ν) (some 2)
  have g3 := grp (L := 5) (a := 104) (b := 105) (c := 114) (x := 101) (y := 100) (z := 0) h1 h20 h19 h6 (by omega) (mod_kindNow_116 ν) (some 3)
  have g4 := grp (L := 8) (a := 115) (b := 109) (c := 117) (x := 103) (y := 103) (z := 108) h1 h20 h19 h6 (by omega) (some (-4)) ((mod_look ν (wI ((ν 61 20) + 6))).bind fun u3 => if u3 = 101 then ((mod_look ν (wI ((ν 61 20) + 7))).bind fun u4 => if u4 = 114 then (some 4) else (some (-4))) else (some (-4)))
  have w0 : Wd B fr en (9 + 0) ↔ W5 B fr en 5 112 108 97 105 110 0 := by unfold Wd; simp
  have w1 : Wd B fr en (9 + 1) ↔ W5 B fr en 6 100 111 117 98 108 101 := by unfold Wd; simp
  have w2 : Wd B fr en (9 + 2) ↔ W5 B fr en 6 115 108 101 100 103 101 := by unfold Wd; simp
  have w3 : Wd B fr en (9 + 3) ↔ W5 B fr en 5 104 105 114 101 100 0 := by unfold Wd; simp
  have w4 : Wd B fr en (9 + 4) ↔ W5 B fr en 8 115 109 117 103 103 108 ∧ B (fr + 6) = 101 ∧ B (fr + 7) = 114 := by unfold Wd; simp
  have un : ∀ j k : Nat, j < 5 → k < 5 → Wd B fr en (9 + j) → Wd B fr en (9 + k) → j = k := fun j k hj hk h h' => by
    unfold Wd W5 at h h'
    omega
  have fin : ∀ v : Nat, v < 5 → Wd B fr en (9 + v) → mod_kindNow ν = some (v : Int) → (∀ j : Nat, j < 5 → Wd B fr en (9 + j) → mod_kindNow ν = some (j : Int)) ∧ ((∀ j : Nat, j < 5 → ¬ Wd B fr en (9 + j)) → mod_kindNow ν = some (-4)) := fun v hv h e => ⟨fun j hj hw => by rw [un j v hj hv hw h]; exact e, fun q => absurd h (q v hv)⟩
  by_cases p0 : W5 B fr en 5 112 108 97 105 110 0
  · exact fin 0 (by omega) (w0.mpr p0) (by rw [mod_kindNow.eq_1]; exact g0.1 p0)
  have e1 : mod_kindNow ν = mod_kindNow_28 ν := by rw [mod_kindNow.eq_1]; exact g0.2 p0
  by_cases p1 : W5 B fr en 6 100 111 117 98 108 101
  · exact fin 1 (by omega) (w1.mpr p1) (by rw [e1, mod_kindNow_28.eq_1]; exact g1.1 p1)
  have e2 : mod_kindNow ν = mod_kindNow_58 ν := by rw [e1, mod_kindNow_28.eq_1]; exact g1.2 p1
  by_cases p2 : W5 B fr en 6 115 108 101 100 103 101
  · exact fin 2 (by omega) (w2.mpr p2) (by rw [e2, mod_kindNow_58.eq_1]; exact g2.1 p2)
  have e3 : mod_kindNow ν = mod_kindNow_88 ν := by rw [e2, mod_kindNow_58.eq_1]; exact g2.2 p2
  by_cases p3 : W5 B fr en 5 104 105 114 101 100 0
  · exact fin 3 (by omega) (w3.mpr p3) (by rw [e3, mod_kindNow_88.eq_1]; exact g3.1 p3)
  have e4 : mod_kindNow ν = mod_kindNow_116 ν := by rw [e3, mod_kindNow_88.eq_1]; exact g3.2 p3
  have e5 : (W5 B fr en 8 115 109 117 103 103 108 ∧ B (fr + 6) = 101 ∧ B (fr + 7) = 114) ∧ mod_kindNow ν = some 4 ∨ ¬ (W5 B fr en 8 115 109 117 103 103 108 ∧ B (fr + 6) = 101 ∧ B (fr + 7) = 114) ∧ mod_kindNow ν = some (-4) := by
    rw [e4, mod_kindNow_116.eq_1]
    by_cases p : W5 B fr en 8 115 109 117 103 103 108
    · have hl := p.1
      rw [g4.1 p, h20, wI_id (x := fr + 6) (by omega), look_in h1 (by omega), Option.bind_some, wI_id (x := fr + 7) (by omega), look_in h1 (by omega), Option.bind_some]
      by_cases p6 : B (fr + 6) = 101
      · rw [if_pos p6]
        by_cases p7 : B (fr + 7) = 114
        · rw [if_pos p7]; exact Or.inl ⟨⟨p, p6, p7⟩, rfl⟩
        · rw [if_neg p7]; exact Or.inr ⟨fun q => p7 q.2.2, rfl⟩
      · rw [if_neg p6]; exact Or.inr ⟨fun q => p6 q.2.1, rfl⟩
    · exact Or.inr ⟨fun q => p q.1, g4.2 p⟩
  rcases e5 with ⟨q1, q2⟩ | ⟨q1, q2⟩
  · exact fin 4 (by omega) (w4.mpr q1) q2
  · refine ⟨fun j hj hw => ?_, fun _ => q2⟩
    exfalso
    have hh : j = 0 ∨ j = 1 ∨ j = 2 ∨ j = 3 ∨ j = 4 := by omega
    rcases hh with rfl | rfl | rfl | rfl | rfl
    · exact p0 (w0.mp hw)
    · exact p1 (w1.mp hw)
    · exact p2 (w2.mp hw)
    · exact p3 (w3.mp hw)
    · exact q1 (w4.mp hw)
