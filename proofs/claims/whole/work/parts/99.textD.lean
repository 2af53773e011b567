/-! ===== text: the start ===== -/
def tS (μ : Mem) : Mem := mset (mset (mset (mset (mset (mset (mset (rstM μ 27) 25 3 0) 25 4 0) 25 7 0) 25 8 0) 25 9 0) 25 10 0) 25 11 0
def fS (ν : Mem) : Mem := fdM (mset (mset ν 61 23 0) 61 19 0)
theorem takeText_st (μ : Mem) : rea_takeText μ = rea_takeText_44 BIG 0 (tS μ) := by
  rw [rea_takeText.eq_1, roa_reset_eq, Option.bind_some, bnd.eq_1, bnd.eq_1, bnd.eq_1, bnd.eq_1, bnd.eq_1, bnd.eq_1, bnd.eq_1, tS.eq_1]
theorem text_st (ν : Mem) : mod_text ν = (mod_next (fS ν)).bind fun μ4 => mod_text_20 BIG 0 μ4 := by
  rw [mod_text.eq_1, bnd.eq_1, bnd.eq_1, mod_firstDraft_eq, Option.bind_some, fS.eq_1]
theorem wp_in {μ : Mem} {a n j : Nat} {v : Int} (h : j < n) : wipeM μ a n v a j = v := by unfold wipeM; rw [if_pos ⟨rfl, h⟩]
theorem wp_off {μ : Mem} {a n k : Nat} {v : Int} (h : k ≠ a) : wipeM μ a n v k = μ k := by funext j; unfold wipeM; rw [if_neg (by omega)]
theorem tS_off (μ : Mem) : Off Mrd μ (tS μ) := by
  intro a j h
  unfold Mrd at h
  unfold tS rstM
  rw [mset_ne (by omega), mset_ne (by omega), mset_ne (by omega), mset_ne (by omega), mset_ne (by omega), mset_ne (by omega), mset_ne (by omega), mset_ne (by omega), mset_ne (by omega), mset_ne (by omega), mset_ne (by omega), mset_ne (by omega), wp_off (by omega), wp_off (by omega), wp_off (by omega), wp_off (by omega), wp_off (by omega)]
theorem tS_25 (μ : Mem) {j : Nat} (h : j = 3 ∨ j = 4 ∨ (7 ≤ j ∧ j ≤ 11)) : tS μ 25 j = 0 := by
  have hh : j = 3 ∨ j = 4 ∨ j = 7 ∨ j = 8 ∨ j = 9 ∨ j = 10 ∨ j = 11 := by omega
  unfold tS
  rcases hh with rfl | rfl | rfl | rfl | rfl | rfl | rfl <;> simp [mset_ap]
theorem tS_27 (μ : Mem) : tS μ 27 7 = 0 ∧ tS μ 27 8 = 0 ∧ tS μ 27 9 = 10 ∧ tS μ 27 10 = 0 ∧ tS μ 27 11 = 0 := by
  unfold tS rstM
  refine ⟨?_, ?_, ?_, ?_, ?_⟩ <;> simp [mset_ap]
theorem tS_rows (μ : Mem) (j : Nat) : (j < 21 → tS μ 28 j = -4) ∧ (j < 21 → tS μ 29 j = -4) ∧ (j < 63 → tS μ 30 j = 0) ∧ (j < 63 → tS μ 31 j = 0) ∧ (j < 8 → tS μ 33 j = 0) := by
  have e : ∀ k : Nat, k ≠ 25 → k ≠ 27 → tS μ k = wipeM (wipeM (wipeM (wipeM (wipeM μ 28 21 (-4)) 29 21 (-4)) 30 63 0) 31 63 0) 33 8 0 k := fun k h1 h2 => by
    unfold tS rstM
    rw [mset_off h1, mset_off h1, mset_off h1, mset_off h1, mset_off h1, mset_off h1, mset_off h1, mset_off h2, mset_off h2, mset_off h2, mset_off h2, mset_off h2]
  refine ⟨fun h => ?_, fun h => ?_, fun h => ?_, fun h => ?_, fun h => ?_⟩
  · rw [e 28 (by omega) (by omega), wp_off (by omega), wp_off (by omega), wp_off (by omega), wp_off (by omega), wp_in h]
  · rw [e 29 (by omega) (by omega), wp_off (by omega), wp_off (by omega), wp_off (by omega), wp_in h]
  · rw [e 30 (by omega) (by omega), wp_off (by omega), wp_off (by omega), wp_in h]
  · rw [e 31 (by omega) (by omega), wp_off (by omega), wp_in h]
  · rw [e 33 (by omega) (by omega), wp_in h]
theorem fS_69 (ν : Mem) {j : Nat} (h : j < 21) : fS ν 69 j = 0 := by
  unfold fS fdM fdE
  rw [if_pos ⟨rfl, by omega, h⟩]
theorem fS_70 (ν : Mem) {k j : Nat} (hk : k = 70 ∨ k = 71) (h : j < 21) : fS ν k j = -4 := by
  unfold fS fdM fdE
  rw [if_neg (by omega), if_pos ⟨hk, by omega, h⟩]
theorem fS_72 (ν : Mem) {k j : Nat} (hk : k = 72 ∨ k = 73) (h : j < 63) : fS ν k j = 0 := by
  unfold fS fdM fdE
  rw [if_neg (by omega), if_neg (by omega), if_pos ⟨hk, by omega, h⟩]
theorem fS_68 (ν : Mem) {j : Nat} (h : j < 185) : fS ν 68 j = 0 := by
  unfold fS fdM fdE
  rw [if_neg (by omega), if_neg (by omega), if_neg (by omega), if_neg (by omega), if_neg (by omega), if_neg (by omega), wp_in h]
theorem fS_61 (ν : Mem) : fS ν 61 8 = 10 ∧ fS ν 61 14 = 0 ∧ fS ν 61 15 = 0 ∧ fS ν 61 16 = -4 ∧ fS ν 61 19 = 0 ∧ fS ν 61 23 = 0 := by
  unfold fS fdM fdE wipeM
  refine ⟨?_, ?_, ?_, ?_, ?_, ?_⟩ <;> simp [mset_ap]
theorem fS_off (ν : Mem) : Off Mrf ν (fS ν) := by
  intro a j h
  unfold Mrf at h
  unfold fS fdM fdE
  rw [if_neg (by omega), if_neg (by omega), if_neg (by omega), if_neg (by omega), if_neg (by omega), if_neg (by omega), wp_off (by omega), mset_ne (by omega), mset_ne (by omega)]
theorem DD_start (μ ν : Mem) : DD (tS μ) (fS ν) := by
  obtain ⟨a7, a8, a9, a10, a11⟩ := tS_27 μ
  obtain ⟨b8, b14, b15, b16, b19, b23⟩ := fS_61 ν
  have rw' := tS_rows μ
  refine ⟨?_, ?_, ?_, ?_, ?_, ?_, ?_, ?_, ?_, ?_, ?_, ?_, ?_, ?_, ?_, ?_⟩
  · unfold dc_0; rw [a9, b8]; omega
  · unfold dc_1; rw [fS_68 ν (by omega), a10]
    exact ⟨by omega, fun i i1 i2 => by omega⟩
  · unfold dc_2; rw [a11, fS_68 ν (by omega)]; exact ⟨rfl, rfl⟩
  · intro i i1 i2; rw [(rw' _).1 (by omega), fS_70 ν (Or.inl rfl) (by omega)]; exact ⟨rfl, Or.inl rfl⟩
  · intro i i1 i2; rw [(rw' _).2.1 (by omega), fS_70 ν (Or.inr rfl) (by omega)]; exact ⟨rfl, Or.inl rfl⟩
  · refine ⟨0, a7, by omega, fun i hi => ?_⟩
    rw [fS_69 ν hi]; simp
  · intro i i1 i2; rw [(rw' _).2.2.1 (by omega), fS_72 ν (Or.inl rfl) (by omega)]; omega
  · intro i i1 i2; rw [(rw' _).2.2.2.1 (by omega), fS_68 ν (by omega)]; omega
  · intro i i1 i2; rw [(rw' _).2.2.2.2 (by omega), fS_68 ν (by omega)]; omega
  · refine ⟨0, a8, by omega, fun i hi => ?_⟩
    rw [fS_68 ν (by omega)]; simp
  · unfold dc_10; rw [tS_25 μ (by omega), b14]; exact ⟨rfl, Or.inl rfl⟩
  · unfold dc_11; rw [tS_25 μ (by omega), b15]
  · refine ⟨0, tS_25 μ (by omega), by omega, fun i hi => ?_⟩
    rw [fS_72 ν (Or.inr rfl) hi]; simp
  · unfold dc_13; rw [tS_25 μ (by omega), b16]; exact Or.inl ⟨rfl, rfl⟩
  · unfold dc_14; rw [fS_68 ν (by omega)]; intro c c1 c2; omega
  · intro k k1 k2; rw [fS_72 ν (Or.inr rfl) k1] at k2; omega
theorem run_text {B : Int → Int} {n : Int} {μ ν : Mem} (h1 : TpC μ B n) (h2 : TpM ν B n) : Fin μ ν (rea_takeText μ) (mod_text ν) := by
  have hB := BIG_gt
  obtain ⟨b8, b14, b15, b16, b19, b23⟩ := fS_61 ν
  have o1 := tS_off μ
  have o2 := fS_off ν
  have t1 : TpC (tS μ) B n := h1.off (o1 _ _ (by unfold Mrd; omega)) (o1.cell (fun j => by unfold Mrd; omega))
  have t2 : TpM (fS ν) B n := h2.off (o2 _ _ (by unfold Mrf; omega)) (o2.cell (fun j => by unfold Mrf; omega))
  have hn := t1.2.1
  obtain ⟨fr, so, en, va, bad, hT⟩ := Tok_ex B (n := n) (p := 0) ⟨by omega, by omega⟩
  obtain ⟨ν1, x1, x2, x3⟩ := mnext t2 b19 (by omega) b23 hT
  have e7 : tS μ 25 7 = 0 := tS_25 μ (by omega)
  have R : Rdy B n (tS μ) ν1 := ⟨t1, t2.off (x2 _ _ (by unfold M61; omega)) (x2.cell (fun j => by unfold M61; omega)), by omega, tS_25 μ (by omega), fr, so, en, va, bad, by rw [e7]; exact hT, x3⟩
  have D : DD (tS μ) ν1 := (DD_start μ ν).tok Off.rf x2
  rw [takeText_st, text_st, x1, Option.bind_some]
  exact Fin.tr o1 (o2.tr x2.mz.zrf) (L_text 400 BIG BIG 0 _ _ (by omega) (by omega) (by omega) (by omega) (by omega) R D)
