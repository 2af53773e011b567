/-! ===== text: what is kept ===== -/
def dR (ν : Mem) : Rd
  | 0, i => if i = 0 then ν 61 8 else if i = 1 then ν 68 0 else ν 68 168
  | 1, i => ν 70 i.toNat
  | 2, i => ν 71 i.toNat
  | 3, i => ν 69 i.toNat
  | 4, i => ν 72 i.toNat
  | 5, i => ν 68 (36 + i.toNat)
  | 6, i => ν 68 (1 + i.toNat)
  | 7, i => ν 68 (160 + i.toNat)
  | 8, i => ν 68 (99 + i.toNat)
  | _, _ => 0
theorem dR_0 (ν : Mem) : dR ν 0 0 = ν 61 8 ∧ dR ν 0 1 = ν 68 0 ∧ dR ν 0 2 = ν 68 168 := by
  refine ⟨?_, ?_, ?_⟩ <;> simp [dR]
theorem dR_pt (ν : Mem) (c k : Int) : pt (dR ν) c k = ν 68 (1 + (7 * c + k).toNat) := rfl
theorem RC_dR {μ ν : Mem} (D : DD μ ν) : RC μ 27 (dR ν) := by
  obtain ⟨r0, r1, r2⟩ := dR_0 ν
  have d0 := D.d0
  have d1 := D.d1
  have d2 := D.d2
  unfold dc_0 at d0
  unfold dc_1 at d1
  unfold dc_2 at d2
  obtain ⟨b, b1, b2, b3⟩ := D.d5
  obtain ⟨f, f1, f2, f3⟩ := D.d9
  unfold RC
  rw [r0, r1, r2]
  refine ⟨⟨d0.2, d1.1.2, by omega⟩, fun i h1 h2 => (D.d3 i h1 h2).1, fun i h1 h2 => (D.d4 i h1 h2).1, ⟨b, b1, b2, fun i hi => (b3 i hi).2⟩, fun i h1 h2 => (D.d6 i h1 h2).1, fun i h1 h2 => (D.d7 i h1 h2).1, fun i h1 h2 => (d1.2 i h1 h2).1, fun i h1 h2 => (D.d8 i h1 h2).1, ⟨f, f1, f2, fun i hi => (f3 i hi).2⟩, fun i h1 h2 => by omega⟩
theorem Ok_dR {μ ν : Mem} (D : DD μ ν) (hl : μ 25 11 ≤ μ 27 9) : Ok (dR ν) := by
  obtain ⟨r0, r1, r2⟩ := dR_0 ν
  have d0 := D.d0
  have d1 := D.d1
  have d2 := D.d2
  have d14 := D.d14
  unfold dc_0 at d0
  unfold dc_1 at d1
  unfold dc_2 at d2
  unfold dc_14 at d14
  obtain ⟨b, b1, b2, b3⟩ := D.d5
  obtain ⟨f, f1, f2, f3⟩ := D.d9
  unfold Ok
  rw [r0, r1, r2]
  refine ⟨by omega, fun i h1 h2 => (D.d3 i h1 h2).2, fun i h1 h2 => (D.d4 i h1 h2).2, fun i h1 h2 => (b3 i.toNat (by omega)).1, fun i h1 h2 => (D.d6 i h1 h2).2, fun i h1 h2 => (D.d7 i h1 h2).2, fun c h1 h2 => ?_, fun i h1 h2 => (D.d8 i h1 h2).2, fun i h1 h2 => (f3 i.toNat (by omega)).1, fun i h1 h2 => by omega⟩
  rw [dR_pt, dR_pt, dR_pt, dR_pt, dR_pt, dR_pt, dR_pt]
  have k0 := d1.2 (7 * c + 0) (by omega) (by omega)
  have k1 := d1.2 (7 * c + 1) (by omega) (by omega)
  have k2 := d1.2 (7 * c + 2) (by omega) (by omega)
  have k3 := d1.2 (7 * c + 3) (by omega) (by omega)
  have k4 := d1.2 (7 * c + 4) (by omega) (by omega)
  have k5 := d1.2 (7 * c + 5) (by omega) (by omega)
  have k6 := d1.2 (7 * c + 6) (by omega) (by omega)
  have y := d14 c h1 h2
  have e0 := k0.2.2.1 (by omega)
  have e1 := k1.2.2.2.1 (by omega)
  have e2 := k2.2.2.2.2.1 (by omega)
  have e3 := k3.2.2.2.2.2.1 (by omega)
  have e6 := k6.2.2.2.2.2.2 (by omega)
  exact ⟨⟨k0.2.1, e0⟩, ⟨k1.2.1, e1⟩, e2, ⟨k3.2.1, e3⟩, ⟨k4.2.1, by omega⟩, ⟨k5.2.1, by omega⟩, y.2.2, ⟨k6.2.1, e6⟩⟩
theorem kd_62 (μ : Mem) {j : Nat} (h : j < 185) : kdM μ 62 j = μ 68 j := by
  unfold kdM kdE
  rw [if_neg (by omega), if_neg (by omega), if_neg (by omega), if_neg (by omega), if_neg (by omega), mset_ne (by omega), if_pos ⟨rfl, h⟩]
theorem kd_64 (μ : Mem) {j : Nat} (h : j < 21) : kdM μ 64 j = zN (μ 69 j) := by
  unfold kdM kdE
  rw [if_pos ⟨rfl, by omega, h⟩, mset_ne (by omega), if_neg (by omega)]
theorem kd_65 (μ : Mem) {j : Nat} (h : j < 21) : kdM μ 65 j = μ 70 j := by
  unfold kdM kdE
  rw [if_neg (by omega), if_pos ⟨rfl, by omega, h⟩, mset_ne (by omega), if_neg (by omega)]
theorem kd_66 (μ : Mem) {j : Nat} (h : j < 21) : kdM μ 66 j = μ 71 j := by
  unfold kdM kdE
  rw [if_neg (by omega), if_neg (by omega), if_pos ⟨rfl, by omega, h⟩, mset_ne (by omega), if_neg (by omega)]
theorem kd_67 (μ : Mem) {j : Nat} (h : j < 63) : kdM μ 67 j = μ 72 j := by
  unfold kdM kdE
  rw [if_neg (by omega), if_neg (by omega), if_neg (by omega), if_pos ⟨rfl, by omega, h⟩, mset_ne (by omega), if_neg (by omega)]
theorem kd_63 (μ : Mem) {j : Nat} (h : j < 2) : kdM μ 63 j = 0 := by
  unfold kdM kdE
  rw [if_neg (by omega), if_neg (by omega), if_neg (by omega), if_neg (by omega), if_pos ⟨rfl, h⟩]
theorem kd_61 (μ : Mem) : kdM μ 61 2 = μ 61 8 := by
  unfold kdM kdE
  rw [if_neg (by omega), if_neg (by omega), if_neg (by omega), if_neg (by omega), if_neg (by omega), mset_same]
theorem kd_out (μ : Mem) {a j : Nat} (h : a < 62 ∨ 67 < a) (h2 : ¬ (a = 61 ∧ j = 2)) : kdM μ a j = μ a j := by
  unfold kdM kdE
  rw [if_neg (by omega), if_neg (by omega), if_neg (by omega), if_neg (by omega), if_neg (by omega), mset_ne (by omega), if_neg (by omega)]
theorem kd_cell (μ : Mem) {a : Nat} (h : a < 61 ∨ 67 < a) : kdM μ a = μ a := funext fun j => kd_out μ (by omega) (by omega)
theorem MC_kd {μ ν : Mem} (D : DD μ ν) : MC (kdM (mset ν 61 18 0)) 0 (dR ν) := by
  obtain ⟨r0, r1, r2⟩ := dR_0 ν
  have d2 := D.d2
  unfold dc_2 at d2
  obtain ⟨b, b1, b2, b3⟩ := D.d5
  have e : ∀ a, a ≠ 61 → mset ν 61 18 0 a = ν a := fun a h => mset_off h
  unfold MC
  rw [r0, r1, r2, d2.2]
  refine ⟨⟨by rw [kd_61, mset_ne (by omega)], by rw [kd_62 _ (by omega), e 68 (by omega)], by rw [kd_62 _ (by omega), e 68 (by omega)]; exact d2.2⟩, fun i h1 h2 => ?_, fun i h1 h2 => ?_, fun i h1 h2 => ?_, fun i h1 h2 => ?_, fun i h1 h2 => ?_, fun i h1 h2 => ?_, fun i h1 h2 => ?_, fun i h1 h2 => ?_, fun i h1 h2 => by omega⟩
  · rw [kd_65 _ (by omega), e 70 (by omega)]; rfl
  · rw [kd_66 _ (by omega), e 71 (by omega)]; rfl
  · rw [kd_64 _ (by omega), e 69 (by omega)]
    rcases (b3 i.toNat (by omega)).1 with z | z
    · rw [z, zN_0]; exact z.symm
    · rw [z, zN_1]; exact z.symm
  · rw [kd_67 _ (by omega), e 72 (by omega)]; rfl
  · rw [kd_62 _ (by omega), e 68 (by omega), show 0 + 36 + i.toNat = 36 + i.toNat by omega]; rfl
  · rw [kd_62 _ (by omega), e 68 (by omega), show 0 + 1 + i.toNat = 1 + i.toNat by omega]; rfl
  · rw [kd_62 _ (by omega), e 68 (by omega), show 0 + 160 + i.toNat = 160 + i.toNat by omega]; rfl
  · rw [kd_62 _ (by omega), e 68 (by omega), show 0 + 99 + i.toNat = 99 + i.toNat by omega]; rfl
theorem E_text_ok : E_text Inv := by
  intro μ H
  have H0 := H
  obtain ⟨i1, i2, ⟨t1, t2, t3⟩, i4, i5, i6, i7⟩ := H
  have hC : TpC μ (fun i => μ 74 i.toNat) (μ 61 18) := ⟨t2, t1, fun i h1 h2 => t3 i h1 h2⟩
  have hM : ∀ ν : Mem, ν 61 18 = μ 61 18 → ν 74 = μ 74 → TpM ν (fun i => μ 74 i.toNat) (μ 61 18) := fun ν e1 e2 => ⟨e1, t1, fun i h1 h2 => ⟨(t3 i h1 h2).1, by rw [e2]⟩⟩
  obtain ⟨r, μ', ν0, c1, c2, c3, c4⟩ := run_text hC (hM μ rfl rfl)
  have q0 : ∀ a, a ≠ 25 → ¬ (27 ≤ a ∧ a ≤ 34) → μ' a = μ a := fun a h1 h2 => c2.cell (fun j => by unfold Mrd; omega)
  rcases c4 with ⟨p1, p2⟩ | ⟨p1, p2, p3⟩
  · obtain ⟨μ1, hμ1⟩ : ∃ μ1, μ1 = pdM (mset (cpR 1 27 (mset μ' 25 1 0)) 0 10 0) := ⟨_, rfl⟩
    have hc : ww_text μ = some (r, μ1) := by
      rw [ww_text.eq_1, c1, Option.bind_some, bnd.eq_1]
      dsimp only
      rw [if_pos p1, copyFrom_eq (by omega), Option.bind_some, bnd.eq_1, drop_eq, Option.bind_some, hμ1]
    have q1 : ∀ a, ¬ a ≤ 8 → a ≠ 46 → a ≠ 25 → ¬ (27 ≤ a ∧ a ≤ 34) → μ1 a = μ a := fun a h1 h2 h3 h4 => by
      rw [hμ1, pd_off _ _ h2, mset_off (by omega), cpR_off (by omega), mset_off h3, q0 a h3 h4]
    obtain ⟨r', μ2, ν1, d1, d2, d3, d4⟩ := run_text hC (hM μ1 (by rw [q1 61 (by omega) (by omega) (by omega) (by omega)]) (q1 74 (by omega) (by omega) (by omega) (by omega)))
    rw [c1] at d1
    injection d1 with d1
    have er : r = r' := congrArg Prod.fst d1
    have eμ : μ' = μ2 := congrArg Prod.snd d1
    subst er
    subst eμ
    rcases d4 with ⟨-, m1, D, e3, e23, e11⟩ | ⟨s1, -⟩
    · refine ⟨r, μ1, _, hc, m1, ?_⟩
      have q2 : ∀ a, a ≤ 60 → kdM (mset ν1 61 18 0) a = μ1 a := fun a h => by
        rw [kd_cell _ (by omega), mset_off (by omega), d3.cell (fun j => by unfold Mrf; omega)]
      have q3 : ∀ a, 74 ≤ a → kdM (mset ν1 61 18 0) a = μ a := fun a h => by
        rw [kd_cell _ (by omega), mset_off (by omega), d3.cell (fun j => by unfold Mrf; omega), q1 a (by omega) (by omega) (by omega) (by omega)]
      have q4 : ∀ a, 51 ≤ a → a ≤ 60 → kdM (mset ν1 61 18 0) a = μ a := fun a h h' => by
        rw [q2 a h', q1 a (by omega) (by omega) (by omega) (by omega)]
      obtain ⟨r0, r1, r2⟩ := dR_0 ν1
      have dd2 := D.d2
      have dd1 := D.d1.1
      unfold dc_2 at dd2
      have hR : RC (kdM (mset ν1 61 18 0)) 1 (dR ν1) := by
        have a1 : RC (mset μ' 25 1 0) 27 (dR ν1) := (RC_dR D).off (fun a _ _ => mset_off (by omega))
        have a2 : RC (cpR 1 27 (mset μ' 25 1 0)) 1 (dR ν1) := RC.cp (by omega) (by omega) (by omega) a1
        exact a2.off (fun a h1 h2 => by rw [q2 a (by omega), hμ1, pd_off _ _ (by omega), mset_off (by omega)])
      have e18 : kdM (mset ν1 61 18 0) 61 18 = 0 := by rw [kd_out _ (by omega) (by omega), mset_same]
      refine ⟨Iroad.of hR (MC_kd D) (Ok_dR D e11), ?_, ⟨by rw [e18]; omega, ?_, fun i h1 h2 => by rw [e18] at h2; omega⟩, i4.same (q4 58 (by omega) (by omega)) (q4 59 (by omega) (by omega)) (q4 60 (by omega) (by omega)) (q3 85 (by omega)) (q3 86 (by omega)) (q3 87 (by omega)), ?_, i6.same (by rw [q4 57 (by omega) (by omega)]) ?_, Icache.dropped ?_ ?_⟩
      · unfold Iimg
        rw [kd_63 _ (by omega), kd_63 _ (by omega)]
        refine ⟨Or.inl rfl, Or.inl rfl, ?_, fun h => by omega, fun h => by omega⟩
        rw [q2 0 (by omega), hμ1, pd_off _ _ (by omega), mset_same]
        rfl
      · rw [e18, q2 25 (by omega), hμ1, pd_off _ _ (by omega), mset_off (by omega), cpR_off (by omega), mset_same]
      · unfold Ifault
        rw [q2 25 (by omega), hμ1, pd_off _ _ (by omega), mset_off (by omega), cpR_off (by omega), mset_ne (by omega), e3, kd_out _ (by omega) (by omega), mset_ne (by omega), e23]
      · rw [kd_out _ (by omega) (by omega), mset_ne (by omega), d3 61 39 (by unfold Mrf; omega), q1 61 (by omega) (by omega) (by omega) (by omega)]
      · rw [q2 46 (by omega), hμ1]; exact (pd_flags _).1
      · rw [q2 46 (by omega), hμ1]; exact (pd_flags _).2
    · omega
  · obtain ⟨μ1, hμ1⟩ : ∃ μ1, μ1 = mset μ' 25 1 0 := ⟨_, rfl⟩
    have hb := p3.2.2
    have hc : ww_text μ = some (-10 - μ' 25 4, μ1) := by
      rw [ww_text.eq_1, c1, Option.bind_some, bnd.eq_1]
      dsimp only
      rw [if_neg (by omega), mset_ne (k' := 25) (by omega), wI_id (by omega), hμ1]
    have q1 : ∀ a, a ≠ 25 → ¬ (27 ≤ a ∧ a ≤ 34) → μ1 a = μ a := fun a h3 h4 => by
      rw [hμ1, mset_off h3, q0 a h3 h4]
    obtain ⟨r', μ2, ν1, d1, d2, d3, d4⟩ := run_text hC (hM μ1 (by rw [q1 61 (by omega) (by omega)]) (q1 74 (by omega) (by omega)))
    rw [c1] at d1
    injection d1 with d1
    have er : r = r' := congrArg Prod.fst d1
    have eμ : μ' = μ2 := congrArg Prod.snd d1
    subst er
    subst eμ
    rcases d4 with ⟨s1, -⟩ | ⟨-, m1, b⟩
    · omega
    · refine ⟨-10 - μ' 25 4, μ1, _, hc, by rw [m1, b.2.2.1], ?_⟩
      have q2 : ∀ a, ¬ (a = 61 ∨ 68 ≤ a ∧ a ≤ 73) → mset ν1 61 18 0 a = μ1 a := fun a h => by
        rw [mset_off (by omega), d3.cell (fun j => by unfold Mrf; omega)]
      have q3 : ∀ a, ¬ (a = 61 ∨ 68 ≤ a ∧ a ≤ 73) → a ≠ 25 → ¬ (27 ≤ a ∧ a ≤ 34) → mset ν1 61 18 0 a = μ a := fun a h h3 h4 => by
        rw [q2 a h, q1 a h3 h4]
      have q61 : ∀ j, (j < 8 ∨ 24 < j) → mset ν1 61 18 0 61 j = μ 61 j := fun j h => by
        rw [mset_ne (by omega), d3 61 j (by unfold Mrf; omega), q1 61 (by omega) (by omega)]
      have hs : SmM μ (mset ν1 61 18 0) := ⟨q61 2 (by omega), q3 _ (by omega) (by omega) (by omega), q3 _ (by omega) (by omega) (by omega), q3 _ (by omega) (by omega) (by omega), q3 _ (by omega) (by omega) (by omega), q3 _ (by omega) (by omega) (by omega)⟩
      have e18 : mset ν1 61 18 0 61 18 = 0 := mset_same
      refine ⟨i1.same hs (fun a _ _ => q3 a (by omega) (by omega) (by omega)), i2.same hs (q3 63 (by omega) (by omega) (by omega)) (by rw [q3 0 (by omega) (by omega) (by omega)]) (fun a _ _ => q3 a (by omega) (by omega) (by omega)), ⟨by rw [e18]; omega, by rw [e18, q2 25 (by omega), hμ1, mset_same], fun i h1 h2 => by rw [e18] at h2; omega⟩, i4.same (q3 _ (by omega) (by omega) (by omega)) (q3 _ (by omega) (by omega) (by omega)) (q3 _ (by omega) (by omega) (by omega)) (q3 _ (by omega) (by omega) (by omega)) (q3 _ (by omega) (by omega) (by omega)) (q3 _ (by omega) (by omega) (by omega)), ?_, i6.same (by rw [q3 57 (by omega) (by omega) (by omega)]) (q61 39 (by omega)), i7.same (q61 2 (by omega)) (fun j _ => by rw [q3 62 (by omega) (by omega) (by omega)]) (q3 _ (by omega) (by omega) (by omega)) (q3 _ (by omega) (by omega) (by omega)) (q3 _ (by omega) (by omega) (by omega)) (fun j _ _ => by rw [q3 46 (by omega) (by omega) (by omega)]) (q3 _ (by omega) (by omega) (by omega))⟩
      unfold Ifault
      rw [q2 25 (by omega), hμ1, mset_ne (by omega), mset_ne (by omega)]
      exact b.2.1
