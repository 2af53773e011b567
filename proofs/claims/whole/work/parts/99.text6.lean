def My (a j : Nat) : Prop := a = 25 ∧ (3 ≤ j ∧ j ≤ 7 ∨ j = 11)
def Mz (a j : Nat) : Prop := a = 61 ∧ (j = 16 ∨ 19 ≤ j ∧ j ≤ 24)
def Mrd (a j : Nat) : Prop := (a = 25 ∧ 3 ≤ j) ∨ (27 ≤ a ∧ a ≤ 34)
def Mrf (a j : Nat) : Prop := (a = 61 ∧ (j = 8 ∨ (14 ≤ j ∧ j ≤ 16) ∨ (19 ≤ j ∧ j ≤ 24))) ∨ (68 ≤ a ∧ a ≤ 73)
theorem Off.my {μ μ' : Mem} (h : Off M25 μ μ') : Off My μ μ' := h.mono (fun a j z => by unfold M25 at z; unfold My; omega)
theorem Off.mz {μ μ' : Mem} (h : Off M61 μ μ') : Off Mz μ μ' := h.mono (fun a j z => by unfold M61 at z; unfold Mz; omega)
theorem Off.yrd {μ μ' : Mem} (h : Off My μ μ') : Off Mrd μ μ' := h.mono (fun a j z => by unfold My at z; unfold Mrd; omega)
theorem Off.zrf {μ μ' : Mem} (h : Off Mz μ μ') : Off Mrf μ μ' := h.mono (fun a j z => by unfold Mz at z; unfold Mrf; omega)
theorem DD.tok {μ ν μ' ν' : Mem} (hc : Off M25 μ μ') (hm : Off M61 ν ν') (H : DD μ ν) : DD μ' ν' := ⟨dc_0.off hc hm ⟨fun a j q => by unfold fp_0 at q; unfold M25; omega, fun a j q => by unfold gp_0 at q; unfold M61; omega⟩ H.d0, dc_1.off hc hm ⟨fun a j q => by unfold fp_1 at q; unfold M25; omega, fun a j q => by unfold gp_1 at q; unfold M61; omega⟩ H.d1, dc_2.off hc hm ⟨fun a j q => by unfold fp_2 at q; unfold M25; omega, fun a j q => by unfold gp_2 at q; unfold M61; omega⟩ H.d2, dc_3.off hc hm ⟨fun a j q => by unfold fp_3 at q; unfold M25; omega, fun a j q => by unfold gp_3 at q; unfold M61; omega⟩ H.d3, dc_4.off hc hm ⟨fun a j q => by unfold fp_4 at q; unfold M25; omega, fun a j q => by unfold gp_4 at q; unfold M61; omega⟩ H.d4, dc_5.off hc hm ⟨fun a j q => by unfold fp_5 at q; unfold M25; omega, fun a j q => by unfold gp_5 at q; unfold M61; omega⟩ H.d5, dc_6.off hc hm ⟨fun a j q => by unfold fp_6 at q; unfold M25; omega, fun a j q => by unfold gp_6 at q; unfold M61; omega⟩ H.d6, dc_7.off hc hm ⟨fun a j q => by unfold fp_7 at q; unfold M25; omega, fun a j q => by unfold gp_7 at q; unfold M61; omega⟩ H.d7, dc_8.off hc hm ⟨fun a j q => by unfold fp_8 at q; unfold M25; omega, fun a j q => by unfold gp_8 at q; unfold M61; omega⟩ H.d8, dc_9.off hc hm ⟨fun a j q => by unfold fp_9 at q; unfold M25; omega, fun a j q => by unfold gp_9 at q; unfold M61; omega⟩ H.d9, dc_10.off hc hm ⟨fun a j q => by unfold fp_10 at q; unfold M25; omega, fun a j q => by unfold gp_10 at q; unfold M61; omega⟩ H.d10, dc_11.off hc hm ⟨fun a j q => by unfold fp_11 at q; unfold M25; omega, fun a j q => by unfold gp_11 at q; unfold M61; omega⟩ H.d11, dc_12.off hc hm ⟨fun a j q => by unfold fp_12 at q; unfold M25; omega, fun a j q => by unfold gp_12 at q; unfold M61; omega⟩ H.d12, dc_13.off hc hm ⟨fun a j q => by unfold fp_13 at q; unfold M25; omega, fun a j q => by unfold gp_13 at q; unfold M61; omega⟩ H.d13, dc_14.off H.d1.1.1.2 hc hm ⟨fun a j q => by unfold fp_14 at q; unfold M25; omega, fun a j q => by unfold gp_14 at q; unfold M61; omega⟩ H.d14, dc_15.off hc hm ⟨fun a j q => by unfold fp_15 at q; unfold M25; omega, fun a j q => by unfold gp_15 at q; unfold M61; omega⟩ H.d15⟩
def P_yd (a j : Nat) : Prop := a = 25 ∧ j = 11
def Q_yd (a j : Nat) : Prop := a = 61 ∧ j = 16
theorem DD.uyd {μ ν μ' ν' : Mem} (hc : Off P_yd μ μ') (hm : Off Q_yd ν ν') (n13 : dc_13 μ' ν') (n14 : dc_14 μ' ν') (n15 : dc_15 μ' ν') (H : DD μ ν) : DD μ' ν' := ⟨dc_0.off hc hm ⟨fun a j q => by unfold fp_0 at q; unfold P_yd; omega, fun a j q => by unfold gp_0 at q; unfold Q_yd; omega⟩ H.d0, dc_1.off hc hm ⟨fun a j q => by unfold fp_1 at q; unfold P_yd; omega, fun a j q => by unfold gp_1 at q; unfold Q_yd; omega⟩ H.d1, dc_2.off hc hm ⟨fun a j q => by unfold fp_2 at q; unfold P_yd; omega, fun a j q => by unfold gp_2 at q; unfold Q_yd; omega⟩ H.d2, dc_3.off hc hm ⟨fun a j q => by unfold fp_3 at q; unfold P_yd; omega, fun a j q => by unfold gp_3 at q; unfold Q_yd; omega⟩ H.d3, dc_4.off hc hm ⟨fun a j q => by unfold fp_4 at q; unfold P_yd; omega, fun a j q => by unfold gp_4 at q; unfold Q_yd; omega⟩ H.d4, dc_5.off hc hm ⟨fun a j q => by unfold fp_5 at q; unfold P_yd; omega, fun a j q => by unfold gp_5 at q; unfold Q_yd; omega⟩ H.d5, dc_6.off hc hm ⟨fun a j q => by unfold fp_6 at q; unfold P_yd; omega, fun a j q => by unfold gp_6 at q; unfold Q_yd; omega⟩ H.d6, dc_7.off hc hm ⟨fun a j q => by unfold fp_7 at q; unfold P_yd; omega, fun a j q => by unfold gp_7 at q; unfold Q_yd; omega⟩ H.d7, dc_8.off hc hm ⟨fun a j q => by unfold fp_8 at q; unfold P_yd; omega, fun a j q => by unfold gp_8 at q; unfold Q_yd; omega⟩ H.d8, dc_9.off hc hm ⟨fun a j q => by unfold fp_9 at q; unfold P_yd; omega, fun a j q => by unfold gp_9 at q; unfold Q_yd; omega⟩ H.d9, dc_10.off hc hm ⟨fun a j q => by unfold fp_10 at q; unfold P_yd; omega, fun a j q => by unfold gp_10 at q; unfold Q_yd; omega⟩ H.d10, dc_11.off hc hm ⟨fun a j q => by unfold fp_11 at q; unfold P_yd; omega, fun a j q => by unfold gp_11 at q; unfold Q_yd; omega⟩ H.d11, dc_12.off hc hm ⟨fun a j q => by unfold fp_12 at q; unfold P_yd; omega, fun a j q => by unfold gp_12 at q; unfold Q_yd; omega⟩ H.d12, n13, n14, n15⟩
theorem lookedYard_sick {ν : Mem} (h : 0 < ν 61 23) : ∃ ν', mod_lookedYard ν = some (0, ν') ∧ FrM ν ν' ∧ Off Mz ν ν' := by
  rw [mod_lookedYard.eq_1, looked_sick h, Option.bind_some]
  simp only [mod_lookedYard_25.eq_1, bnd.eq_1]
  split
  · exact ⟨_, rfl, FrM.rf.set (by omega), Off.rf.set (by unfold Mz; omega)⟩
  · exact ⟨_, rfl, FrM.rf.set (by omega), Off.rf.set (by unfold Mz; omega)⟩
theorem takeYard_st {u : Int} {μ μ1 : Mem} (k1 : rea_takeNumber 0 20 μ = some (u, μ1)) : rea_takeYard μ = some (u, mset μ1 25 11 (iMax (μ1 25 11) u)) := by
  rw [rea_takeYard.eq_1, k1, Option.bind_some]
  rfl
theorem lookedYard_st {w : Int} {ν ν1 : Mem} (k2 : mod_looked 0 20 ν = some (w, ν1)) : mod_lookedYard ν = some (w, mset ν1 61 16 (iMax (ν1 61 16) w)) := by
  rw [mod_lookedYard.eq_1, k2, Option.bind_some]
  simp only [mod_lookedYard_25.eq_1, bnd.eq_1]
  unfold iMax
  by_cases z : w ≤ ν1 61 16
  · rw [if_pos z, if_neg (by omega)]
  · rw [if_neg z, if_pos (by omega)]
theorem L_yard {B : Int → Int} {n : Int} {μ ν : Mem} (H : Rdy B n μ ν) (hD : DD μ ν) : ∃ u μ' w ν', rea_takeYard μ = some (u, μ') ∧ mod_lookedYard ν = some (w, ν') ∧ Off My μ μ' ∧ Off Mz ν ν' ∧ μ 25 7 ≤ μ' 25 7 ∧ ((0 ≤ u ∧ u ≤ 20) ∧ w = u ∧ Had B n μ' ν' ∧ DD μ' ν' ∧ u ≤ μ' 25 11 ∧ μ 25 11 ≤ μ' 25 11 ∨ u = -1 ∧ w = 0 ∧ Bad μ' ν') := by
  obtain ⟨u, μ1, w, ν1, k1, k2, k3, k4, k5, k6⟩ := L_num 0 20 H
  have o1 : Off P_yd μ1 (mset μ1 25 11 (iMax (μ1 25 11) u)) := Off.rf.set ⟨rfl, rfl⟩
  have o2 : Off Q_yd ν1 (mset ν1 61 16 (iMax (ν1 61 16) w)) := Off.rf.set ⟨rfl, rfl⟩
  have fc : FrC μ1 (mset μ1 25 11 (iMax (μ1 25 11) u)) := FrC.rf.set (by omega)
  have fm : FrM ν1 (mset ν1 61 16 (iMax (ν1 61 16) w)) := FrM.rf.set (by omega)
  have e11 : mset μ1 25 11 (iMax (μ1 25 11) u) 25 11 = iMax (μ1 25 11) u := mset_same
  refine ⟨u, _, w, _, takeYard_st k1, lookedYard_st k2, k3.my.set ⟨rfl, Or.inr rfl⟩, k4.mz.set ⟨rfl, Or.inl rfl⟩, by rw [fc.1 7 (by omega)]; exact k5, ?_⟩
  rcases k6 with ⟨q1, q2, q3⟩ | ⟨q1, q2, q3⟩
  · have D1 := hD.tok k3 k4
    have h13 := D1.d13
    have h14 := D1.d14
    have hx : u ≤ iMax (μ1 25 11) u ∧ μ1 25 11 ≤ iMax (μ1 25 11) u := by unfold iMax; split <;> omega
    refine Or.inl ⟨q1, q2, q3.fr fc fm, D1.uyd o1 o2 ?_ ?_ ?_, by rw [e11]; exact hx.1, by rw [e11, ← k3 25 11 (by unfold M25; omega)]; exact hx.2⟩
    · unfold dc_13 at h13 ⊢
      rw [mset_same, mset_same, q2]
      unfold iMax
      split <;> split <;> omega
    · unfold dc_14 at h14 ⊢
      rw [e11, mset_off (by omega)]
      intro c c1 c2
      have := h14 c c1 c2
      omega
    · have h15 := D1.d15
      unfold dc_15 at h15 ⊢
      rw [e11, mset_off (by omega)]
      intro k z1 z2
      have := h15 k z1 z2
      omega
  · exact Or.inr ⟨q1, q2, q3.fr fc fm⟩
theorem L_ryard {B : Int → Int} {n : Int} {μ ν : Mem} (H : Rdy B n μ ν) (hD : DD μ ν) : ∃ u μ' w ν', rea_takeYard μ = some (u, μ') ∧ mod_readYard ν = some (w, ν') ∧ Off My μ μ' ∧ Off Mz ν ν' ∧ μ 25 7 ≤ μ' 25 7 ∧ ((0 ≤ u ∧ u ≤ 20) ∧ w = u ∧ Rdy B n μ' ν' ∧ DD μ' ν' ∧ u ≤ μ' 25 11 ∧ μ 25 11 ≤ μ' 25 11 ∨ u = -1 ∧ w = 0 ∧ Bad μ' ν') := by
  obtain ⟨u, μ1, w, ν1, k1, k2, k3, k4, k5, k6⟩ := L_yard H hD
  rcases k6 with ⟨q1, q2, q3, q4, q5, q6⟩ | ⟨q1, q2, q3⟩
  · obtain ⟨ν2, x1, x2, x3⟩ := L_next q3
    exact ⟨u, μ1, w, ν2, k1, by rw [mod_readYard.eq_1, k2, Option.bind_some, x1, Option.bind_some], k3, k4.tr x2.mz, k5, Or.inl ⟨q1, q2, x3, q4.tok Off.rf x2, q5, q6⟩⟩
  · exact ⟨u, μ1, w, ν1, k1, by rw [mod_readYard.eq_1, k2, Option.bind_some, mnext_sick q3.1, Option.bind_some], k3, k4, k5, Or.inr ⟨q1, q2, q3⟩⟩
theorem readYard_sick {ν : Mem} (h : 0 < ν 61 23) : ∃ ν', mod_readYard ν = some (0, ν') ∧ FrM ν ν' ∧ Off Mz ν ν' := by
  obtain ⟨ν', k1, k2, k3⟩ := lookedYard_sick h
  exact ⟨ν', by rw [mod_readYard.eq_1, k1, Option.bind_some, mnext_sick (show 0 < ν' 61 23 by rw [k2.1 23 (by omega) (by omega)]; exact h), Option.bind_some], k2, k3⟩
/-! ===== text: what a line comes to on both sides ===== -/
def Out (B : Int → Int) (n : Int) (μ0 ν0 : Mem) (c : Option (Int × Mem)) (m : Option Mem) : Prop := ∃ u μ' ν', c = some (u, μ') ∧ m = some ν' ∧ Off Mrd μ0 μ' ∧ Off Mrf ν0 ν' ∧ μ0 25 7 ≤ μ' 25 7 ∧ (u = 1 ∧ Rdy B n μ' ν' ∧ DD μ' ν' ∨ u = 0 ∧ Bad μ' ν')
def Sk (ν : Mem) (m : Option Mem) : Prop := ∃ ν', m = some ν' ∧ FrM ν ν' ∧ Off Mrf ν ν'
theorem FrM.tr {ν ν1 ν2 : Mem} (h : FrM ν ν1) (h' : FrM ν1 ν2) : FrM ν ν2 := ⟨fun j h1 h2 => (h'.1 j h1 h2).trans (h.1 j h1 h2), h'.2.trans h.2⟩
theorem FrM.sick {ν ν1 : Mem} (h : FrM ν ν1) (s : 0 < ν 61 23) : 0 < ν1 61 23 := by rw [h.1 23 (by omega) (by omega)]; exact s
theorem Sk.tr {ν0 ν : Mem} {m : Option Mem} (h1 : FrM ν0 ν) (h2 : Off Mrf ν0 ν) (H : Sk ν m) : Sk ν0 m := by
  obtain ⟨ν', k1, k2, k3⟩ := H
  exact ⟨ν', k1, h1.tr k2, h2.tr k3⟩
theorem Sk.sign {ν : Mem} (h : 0 < ν 61 23) : Sk ν (signR ν) := ⟨ν, signR_sick h, FrM.rf, Off.rf⟩
theorem Out.tr {B : Int → Int} {n : Int} {μ0 ν0 μ1 ν1 : Mem} {c : Option (Int × Mem)} {m : Option Mem} (h1 : Off Mrd μ0 μ1) (h2 : Off Mrf ν0 ν1) (h7 : μ0 25 7 ≤ μ1 25 7) (H : Out B n μ1 ν1 c m) : Out B n μ0 ν0 c m := by
  obtain ⟨u, μ', ν', a1, a2, a3, a4, a5, a6⟩ := H
  exact ⟨u, μ', ν', a1, a2, h1.tr a3, h2.tr a4, by omega, a6⟩
theorem Out_sign {B : Int → Int} {n : Int} {μ ν : Mem} (H : Rdy B n μ ν) (hD : DD μ ν) : Out B n μ ν ((rea_takeSign μ).bind fun u => some (u.1, u.2)) (signR ν) := by
  obtain ⟨u, μ', ν', k1, k2, k3, k4, k5, k6⟩ := L_sign H
  refine ⟨u, μ', ν', by rw [k1, Option.bind_some], k2, k3.my.yrd, k4.mz.zrf, k5, ?_⟩
  rcases k6 with ⟨q1, q2⟩ | ⟨q1, q2⟩
  · exact Or.inl ⟨q1, q2, hD.tok k3 k4⟩
  · exact Or.inr ⟨q1, q2⟩
theorem Out_bad {B : Int → Int} {n : Int} {μ ν : Mem} {m : Option Mem} (H : Bad μ ν) (hs : Sk ν m) : Out B n μ ν (some (0, μ)) m := by
  obtain ⟨ν', k1, k2, k3⟩ := hs
  exact ⟨0, μ, ν', rfl, k1, Off.rf, k3, Int.le_refl _, Or.inr ⟨rfl, H.fr FrC.rf k2⟩⟩
theorem Out_refuse {B : Int → Int} {n k : Int} {μ ν : Mem} {m : Option Mem} (H : Had B n μ ν) (hk : 0 < k) (hs : Sk (sickM ν k) m) : Out B n μ ν ((rea_refuse k (μ 25 6) μ).bind fun u => some (u.1, u.2)) m := by
  rw [refuse_eq, Option.bind_some]
  dsimp only
  exact Out.tr (Off.yrd (Off.my rf_off)) (Off.zrf (Off.mz sickM_off)) (by rw [rf_7]; exact Int.le_refl _) (Out_bad (H.bad hk) hs)
theorem num_sick {B : Int → Int} {n : Int} {μ ν : Mem} (a b : Int) (H : Rdy B n μ ν) (h : 0 < ν 61 23) : ∃ μ', rea_takeNumber a b μ = some (-1, μ') ∧ Off M25 μ μ' ∧ μ 25 7 ≤ μ' 25 7 ∧ Bad μ' ν := by
  obtain ⟨u, μ1, k1, k2, k3, k4⟩ := L_take H
  rcases k4 with ⟨q1, q2⟩ | ⟨q1, q2⟩
  · have := q2.2.2.2.1; omega
  · refine ⟨μ1, ?_, k2, k3, q2⟩
    rw [rea_takeNumber.eq_1, k1, Option.bind_some]
    show (if u = 0 then _ else _) = _
    rw [if_pos q1]
theorem yard_sick {B : Int → Int} {n : Int} {μ ν : Mem} (H : Rdy B n μ ν) (h : 0 < ν 61 23) : ∃ μ', rea_takeYard μ = some (-1, μ') ∧ Off My μ μ' ∧ μ 25 7 ≤ μ' 25 7 ∧ Bad μ' ν := by
  obtain ⟨μ1, k1, k2, k3, k4⟩ := num_sick 0 20 H h
  exact ⟨_, takeYard_st k1, k2.my.set ⟨rfl, Or.inr rfl⟩, by rw [mset_ne (by omega)]; exact k3, k4.fr (FrC.rf.set (by omega)) FrM.rf⟩
theorem Out_fail {B : Int → Int} {n : Int} {μ μ' ν : Mem} (h1 : Off My μ μ') (h7 : μ 25 7 ≤ μ' 25 7) (H : Bad μ' ν) : Out B n μ ν (some (0, μ')) (some ν) := ⟨0, μ', ν, rfl, rfl, h1.yrd, Off.rf, h7, Or.inr ⟨rfl, H⟩⟩
theorem bse {α : Type} (x : Option α) : (x.bind fun y => some y) = x := by cases x <;> rfl
