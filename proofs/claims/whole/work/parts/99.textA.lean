/-! ===== text: which line ===== -/
theorem m77 {j : Int} {ν ν2 : Mem} (h : mod_next ν = some ν2) : mod_readLine_77 j 1 ν = if ν2 61 23 ≤ 0 then (mod_readLineOf j ν2).bind signR else some ν2 := by
  rw [mod_readLine_77.eq_1, needs1, Option.bind_some, h, Option.bind_some]
  rfl
theorem m77_sick {j : Int} {ν : Mem} (h : 0 < ν 61 23) : mod_readLine_77 j 1 ν = some ν := by
  rw [m77 (mnext_sick h), if_neg (by omega)]
theorem m56 {j : Int} {ν : Mem} (h0 : j = 0 → ν 61 14 = 0) : mod_readLine_56 j 1 ν = mod_readLine_77 j 1 ν := by
  rw [mod_readLine_56.eq_1, needs1, Option.bind_some]
  by_cases z : j = 0
  · rw [if_pos z, if_pos (h0 z)]
  · rw [if_neg z]
theorem m17 {j : Int} {ν : Mem} (h4 : j ≠ -4) (h7 : j = 7 → ν 68 0 < 5) (h0 : j = 0 → ν 61 14 = 0) : mod_readLine_17 j ν = mod_readLine_77 j 1 ν := by
  rw [mod_readLine_17.eq_1, if_neg h4, mod_readLine_30.eq_1, needs1, Option.bind_some, m56 h0]
  by_cases z : j = 7
  · rw [if_pos z, if_neg (by have := h7 z; omega)]
  · rw [if_neg z]
theorem m17_full {ν : Mem} (f : ν 61 23 = 0) (h7 : 5 ≤ ν 68 0) : mod_readLine_17 7 ν = some (sickM ν 5) := by
  rw [mod_readLine_17.eq_1, if_neg (by omega), mod_readLine_30.eq_1, needs1, Option.bind_some, if_pos rfl, if_pos h7, mod_readLine_56.eq_1, needs0 f, Option.bind_some, if_neg (by omega)]
  exact m77_sick (by rw [show mset (mset ν 61 23 5) 61 24 (ν 61 20) = sickM ν 5 from rfl, sickM_23]; omega)
theorem m17_told {ν : Mem} (f : ν 61 23 = 0) (h0 : ν 61 14 ≠ 0) : mod_readLine_17 0 ν = some (sickM ν 4) := by
  have s : 0 < mset (mset ν 61 23 4) 61 24 (ν 61 20) 61 23 := by rw [show mset (mset ν 61 23 4) 61 24 (ν 61 20) = sickM ν 4 from rfl, sickM_23]; omega
  rw [mod_readLine_17.eq_1, if_neg (by omega), mod_readLine_30.eq_1, needs1, Option.bind_some, if_neg (by omega), mod_readLine_56.eq_1, needs1, Option.bind_some, if_pos rfl, if_neg h0, mod_readLine_77.eq_1, needs0 f, Option.bind_some, mnext_sick s, Option.bind_some, if_neg (by omega)]
  rfl
theorem m17_none {ν : Mem} (f : ν 61 23 = 0) : mod_readLine_17 (-4) ν = some (sickM ν 2) := by
  have s : 0 < sickM ν 2 61 23 := by rw [sickM_23]; omega
  have e : mod_needs 0 2 ν = some (sickM ν 2) := needs0 f
  rw [mod_readLine_17.eq_1, if_pos rfl, mod_readLine_30.eq_1, e, Option.bind_some, if_neg (by omega), m56 (by omega)]
  exact m77_sick s
theorem Sk_rf (ν : Mem) : Sk ν (some ν) := ⟨ν, rfl, FrM.rf, Off.rf⟩
theorem disp {B : Int → Int} {n : Int} {μ ν : Mem} {j : Int} {c : Option (Int × Mem)} {m : Option Mem} (H : Had B n μ ν) (D : DD μ ν) (hm : m = mod_readLine_77 j 1 ν) (hl : ∀ ν2, Rdy B n μ ν2 → DD μ ν2 → Out B n μ ν2 c ((mod_readLineOf j ν2).bind signR)) (hs : ∀ ν2, Rdy B n μ ν2 → 0 < ν2 61 23 → Out B n μ ν2 c (some ν2)) : Out B n μ ν c m := by
  obtain ⟨ν2, x1, x2, x3⟩ := L_next H
  rw [hm, m77 x1]
  refine Out.tr Off.rf x2.mz.zrf (Int.le_refl _) ?_
  by_cases z : ν2 61 23 ≤ 0
  · rw [if_pos z]; exact hl ν2 x3 (D.tok Off.rf x2)
  · rw [if_neg z]; exact hs ν2 x3 (by omega)
theorem L_line {B : Int → Int} {n : Int} {μ ν : Mem} (H : Had B n μ ν) (D : DD μ ν) : Out B n μ ν (rea_takeLine μ) (mod_readLine ν) := by
  have H' := H
  obtain ⟨h1, h2, h3, h4, h5, h6, h7⟩ := H'
  have nm := fun j hj => isName_eq (μ := μ) (B := B) (n := n) j hj h1 ⟨h6.1, h6.2.2, h6.2.1⟩
  obtain ⟨m1, m2⟩ := lineNow_eq (ν := ν) (B := B) (n := n) h2 h5.1.symm h5.2.2.symm h6
  have z0 : ∀ j : Nat, j < 14 → ¬ (μ 25 5 = 1 ∧ Wd B (μ 25 6) (μ 25 7) j) → ∀ A C : Option (Int × Mem), ((rea_isName j μ).bind fun u => if u = 0 then A else C) = A := fun j hj q A C => by rw [(nm j hj).2 q, Option.bind_some, if_pos rfl]
  have z1 : ∀ j : Nat, j < 14 → (μ 25 5 = 1 ∧ Wd B (μ 25 6) (μ 25 7) j) → ∀ A C : Option (Int × Mem), ((rea_isName j μ).bind fun u => if u = 0 then A else C) = C := fun j hj q A C => by rw [(nm j hj).1 q, Option.bind_some, if_neg (by omega)]
  have z2 : ∀ j : Nat, j < 9 → (μ 25 5 = 1 ∧ Wd B (μ 25 6) (μ 25 7) j) → mod_readLine ν = mod_readLine_17 (j : Int) ν := fun j hj q => by
    rw [mod_readLine.eq_1, if_pos (by omega), m1 j hj q.2, Option.bind_some]
  have d1 := D.d1.1
  have d10 : μ 25 8 = ν 61 14 ∧ (ν 61 14 = 0 ∨ ν 61 14 = 1) := D.d10
  have e : ∀ x : Option (Int × Mem), (x.bind fun u => some (u.1, u.2)) = x := fun x => bse x
  rw [rea_takeLine.eq_1]
  by_cases p0 : μ 25 5 = 1 ∧ Wd B (μ 25 6) (μ 25 7) 0
  · rw [z1 0 (by omega) p0, e, z2 0 (by omega) p0]
    by_cases t : ν 61 14 = 0
    · exact disp H D (m17 (by omega) (by omega) (fun _ => t)) (fun ν2 a b => L_last a b (by omega)) (fun ν2 a b => S_last a b (by omega))
    · rw [rea_takeLast.eq_1, if_neg (by omega), show ((0 : Nat) : Int) = 0 from rfl, m17_told h4 t]
      exact Out_refuse H (by omega) (Sk_rf _)
  rw [z0 0 (by omega) p0]
  by_cases p1 : μ 25 5 = 1 ∧ Wd B (μ 25 6) (μ 25 7) 1
  · rw [z1 1 (by omega) p1, e, z2 1 (by omega) p1]
    exact disp H D (m17 (by omega) (by omega) (by omega)) (fun ν2 a b => L_bog a b) (fun ν2 a b => S_bog a b)
  rw [z0 1 (by omega) p1]
  by_cases p2 : μ 25 5 = 1 ∧ Wd B (μ 25 6) (μ 25 7) 2
  · rw [z1 2 (by omega) p2, e, z2 2 (by omega) p2]
    exact disp H D (m17 (by omega) (by omega) (by omega)) (fun ν2 a b => L_hill a b) (fun ν2 a b => S_hill a b)
  rw [z0 2 (by omega) p2]
  by_cases p3 : μ 25 5 = 1 ∧ Wd B (μ 25 6) (μ 25 7) 3
  · rw [z1 3 (by omega) p3, e, z2 3 (by omega) p3]
    exact disp H D (m17 (by omega) (by omega) (by omega)) (fun ν2 a b => L_smith a b) (fun ν2 a b => S_smith a b)
  rw [z0 3 (by omega) p3]
  by_cases p4 : μ 25 5 = 1 ∧ Wd B (μ 25 6) (μ 25 7) 4
  · rw [z1 4 (by omega) p4, e, z2 4 (by omega) p4]
    exact disp H D (m17 (by omega) (by omega) (by omega)) (fun ν2 a b => L_toll a b) (fun ν2 a b => S_toll a b)
  rw [z0 4 (by omega) p4]
  by_cases p5 : μ 25 5 = 1 ∧ Wd B (μ 25 6) (μ 25 7) 5
  · rw [z1 5 (by omega) p5, e, z2 5 (by omega) p5]
    exact disp H D (m17 (by omega) (by omega) (by omega)) (fun ν2 a b => L_rut a b) (fun ν2 a b => S_rut a b)
  rw [z0 5 (by omega) p5]
  by_cases p6 : μ 25 5 = 1 ∧ Wd B (μ 25 6) (μ 25 7) 6
  · rw [z1 6 (by omega) p6, e, z2 6 (by omega) p6]
    exact disp H D (m17 (by omega) (by omega) (by omega)) (fun ν2 a b => L_frost a b) (fun ν2 a b => S_frost a b)
  rw [z0 6 (by omega) p6]
  by_cases p7 : μ 25 5 = 1 ∧ Wd B (μ 25 6) (μ 25 7) 7
  · rw [z1 7 (by omega) p7, e, z2 7 (by omega) p7]
    by_cases t : ν 68 0 < 5
    · exact disp H D (m17 (by omega) (fun _ => t) (by omega)) (fun ν2 a b => L_cart a b (by omega)) (fun ν2 a b => S_cart a b (by omega))
    · rw [rea_takeCart.eq_1, if_neg (by omega), show ((7 : Nat) : Int) = 7 from rfl, m17_full h4 (by omega)]
      exact Out_refuse H (by omega) (Sk_rf _)
  rw [z0 7 (by omega) p7]
  by_cases p8 : μ 25 5 = 1 ∧ Wd B (μ 25 6) (μ 25 7) 8
  · rw [z1 8 (by omega) p8, e, z2 8 (by omega) p8]
    exact disp H D (m17 (by omega) (by omega) (by omega)) (fun ν2 a b => L_cost a b) (fun ν2 a b => S_cost a b)
  rw [z0 8 (by omega) p8]
  have hn : mod_readLine ν = some (sickM ν 2) := by
    rw [mod_readLine.eq_1]
    by_cases t : ν 61 21 = 1
    · have t5 : μ 25 5 = 1 := by omega
      rw [if_pos t, m2 (fun j hj q => ?_), Option.bind_some, m17_none h4]
      have hh : j = 0 ∨ j = 1 ∨ j = 2 ∨ j = 3 ∨ j = 4 ∨ j = 5 ∨ j = 6 ∨ j = 7 ∨ j = 8 := by omega
      rcases hh with rfl | rfl | rfl | rfl | rfl | rfl | rfl | rfl | rfl
      · exact p0 ⟨t5, q⟩
      · exact p1 ⟨t5, q⟩
      · exact p2 ⟨t5, q⟩
      · exact p3 ⟨t5, q⟩
      · exact p4 ⟨t5, q⟩
      · exact p5 ⟨t5, q⟩
      · exact p6 ⟨t5, q⟩
      · exact p7 ⟨t5, q⟩
      · exact p8 ⟨t5, q⟩
    · rw [if_neg t, m17_none h4]
  rw [hn]
  exact Out_refuse H (by omega) (Sk_rf _)
