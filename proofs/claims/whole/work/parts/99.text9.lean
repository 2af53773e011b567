/-! ===== text: a cart's line ===== -/
def P_bey (a j : Nat) : Prop := a = 32
def Q_bey (a j : Nat) : Prop := a = 68 ∧ 1 ≤ j ∧ j ≤ 35
theorem DD.ubey {μ ν μ' ν' : Mem} (hc : Off P_bey μ μ') (hm : Off Q_bey ν ν') (n1 : dc_1 μ' ν') (n14 : dc_14 μ' ν') (H : DD μ ν) : DD μ' ν' := ⟨dc_0.off hc hm ⟨fun a j q => by unfold fp_0 at q; unfold P_bey; omega, fun a j q => by unfold gp_0 at q; unfold Q_bey; omega⟩ H.d0, n1, dc_2.off hc hm ⟨fun a j q => by unfold fp_2 at q; unfold P_bey; omega, fun a j q => by unfold gp_2 at q; unfold Q_bey; omega⟩ H.d2, dc_3.off hc hm ⟨fun a j q => by unfold fp_3 at q; unfold P_bey; omega, fun a j q => by unfold gp_3 at q; unfold Q_bey; omega⟩ H.d3, dc_4.off hc hm ⟨fun a j q => by unfold fp_4 at q; unfold P_bey; omega, fun a j q => by unfold gp_4 at q; unfold Q_bey; omega⟩ H.d4, dc_5.off hc hm ⟨fun a j q => by unfold fp_5 at q; unfold P_bey; omega, fun a j q => by unfold gp_5 at q; unfold Q_bey; omega⟩ H.d5, dc_6.off hc hm ⟨fun a j q => by unfold fp_6 at q; unfold P_bey; omega, fun a j q => by unfold gp_6 at q; unfold Q_bey; omega⟩ H.d6, dc_7.off hc hm ⟨fun a j q => by unfold fp_7 at q; unfold P_bey; omega, fun a j q => by unfold gp_7 at q; unfold Q_bey; omega⟩ H.d7, dc_8.off hc hm ⟨fun a j q => by unfold fp_8 at q; unfold P_bey; omega, fun a j q => by unfold gp_8 at q; unfold Q_bey; omega⟩ H.d8, dc_9.off hc hm ⟨fun a j q => by unfold fp_9 at q; unfold P_bey; omega, fun a j q => by unfold gp_9 at q; unfold Q_bey; omega⟩ H.d9, dc_10.off hc hm ⟨fun a j q => by unfold fp_10 at q; unfold P_bey; omega, fun a j q => by unfold gp_10 at q; unfold Q_bey; omega⟩ H.d10, dc_11.off hc hm ⟨fun a j q => by unfold fp_11 at q; unfold P_bey; omega, fun a j q => by unfold gp_11 at q; unfold Q_bey; omega⟩ H.d11, dc_12.off hc hm ⟨fun a j q => by unfold fp_12 at q; unfold P_bey; omega, fun a j q => by unfold gp_12 at q; unfold Q_bey; omega⟩ H.d12, dc_13.off hc hm ⟨fun a j q => by unfold fp_13 at q; unfold P_bey; omega, fun a j q => by unfold gp_13 at q; unfold Q_bey; omega⟩ H.d13, n14, dc_15.off hc hm ⟨fun a j q => by unfold fp_15 at q; unfold P_bey; omega, fun a j q => by unfold gp_15 at q; unfold Q_bey; omega⟩ H.d15⟩
def P_cnt (a j : Nat) : Prop := a = 27 ∧ j = 10
def Q_cnt (a j : Nat) : Prop := a = 68 ∧ j = 0
theorem DD.ucnt {μ ν μ' ν' : Mem} (hc : Off P_cnt μ μ') (hm : Off Q_cnt ν ν') (n1 : dc_1 μ' ν') (n14 : dc_14 μ' ν') (H : DD μ ν) : DD μ' ν' := ⟨dc_0.off hc hm ⟨fun a j q => by unfold fp_0 at q; unfold P_cnt; omega, fun a j q => by unfold gp_0 at q; unfold Q_cnt; omega⟩ H.d0, n1, dc_2.off hc hm ⟨fun a j q => by unfold fp_2 at q; unfold P_cnt; omega, fun a j q => by unfold gp_2 at q; unfold Q_cnt; omega⟩ H.d2, dc_3.off hc hm ⟨fun a j q => by unfold fp_3 at q; unfold P_cnt; omega, fun a j q => by unfold gp_3 at q; unfold Q_cnt; omega⟩ H.d3, dc_4.off hc hm ⟨fun a j q => by unfold fp_4 at q; unfold P_cnt; omega, fun a j q => by unfold gp_4 at q; unfold Q_cnt; omega⟩ H.d4, dc_5.off hc hm ⟨fun a j q => by unfold fp_5 at q; unfold P_cnt; omega, fun a j q => by unfold gp_5 at q; unfold Q_cnt; omega⟩ H.d5, dc_6.off hc hm ⟨fun a j q => by unfold fp_6 at q; unfold P_cnt; omega, fun a j q => by unfold gp_6 at q; unfold Q_cnt; omega⟩ H.d6, dc_7.off hc hm ⟨fun a j q => by unfold fp_7 at q; unfold P_cnt; omega, fun a j q => by unfold gp_7 at q; unfold Q_cnt; omega⟩ H.d7, dc_8.off hc hm ⟨fun a j q => by unfold fp_8 at q; unfold P_cnt; omega, fun a j q => by unfold gp_8 at q; unfold Q_cnt; omega⟩ H.d8, dc_9.off hc hm ⟨fun a j q => by unfold fp_9 at q; unfold P_cnt; omega, fun a j q => by unfold gp_9 at q; unfold Q_cnt; omega⟩ H.d9, dc_10.off hc hm ⟨fun a j q => by unfold fp_10 at q; unfold P_cnt; omega, fun a j q => by unfold gp_10 at q; unfold Q_cnt; omega⟩ H.d10, dc_11.off hc hm ⟨fun a j q => by unfold fp_11 at q; unfold P_cnt; omega, fun a j q => by unfold gp_11 at q; unfold Q_cnt; omega⟩ H.d11, dc_12.off hc hm ⟨fun a j q => by unfold fp_12 at q; unfold P_cnt; omega, fun a j q => by unfold gp_12 at q; unfold Q_cnt; omega⟩ H.d12, dc_13.off hc hm ⟨fun a j q => by unfold fp_13 at q; unfold P_cnt; omega, fun a j q => by unfold gp_13 at q; unfold Q_cnt; omega⟩ H.d13, n14, dc_15.off hc hm ⟨fun a j q => by unfold fp_15 at q; unfold P_cnt; omega, fun a j q => by unfold gp_15 at q; unfold Q_cnt; omega⟩ H.d15⟩
theorem DD.bey {c i v : Int} {μ ν : Mem} (hc : 0 ≤ c ∧ c ≤ 4) (hi : 0 ≤ i ∧ i ≤ 6) (e : ν 68 0 = c) (H : DD μ ν) : DD (mset μ 32 (7 * c + i).toNat v) (mset ν 68 (1 + (7 * c + i).toNat) v) := by
  refine DD.ubey (Off.rf.set rfl) (Off.rf.set ⟨rfl, by omega, by omega⟩) ?_ ?_ H
  · have h := H.d1
    unfold dc_1 at h ⊢
    rw [mset_ne (k' := 68) (i' := 0) (by omega), mset_ne (k' := 27) (by omega)]
    refine ⟨h.1, fun k k1 k2 => ?_⟩
    rw [mset_ne (k' := 32) (by omega), mset_ne (k' := 68) (by omega)]
    exact h.2 k k1 k2
  · have h := H.d14
    unfold dc_14 at h ⊢
    rw [mset_ne (k' := 68) (i' := 0) (by omega), mset_ne (k' := 25) (by omega)]
    intro k k1 k2
    rw [mset_ne (k' := 68) (by omega), mset_ne (k' := 68) (by omega)]
    exact h k k1 k2
def Cnd (t i v f : Int) : Prop := 0 ≤ v ∧ (i = 0 → v ≤ 4) ∧ (i = 1 → v ≤ 2) ∧ (i = 2 → 1 ≤ v ∧ v ≤ 9) ∧ (i = 3 → v ≤ 30) ∧ (i = 4 → v ≤ f) ∧ (i = 5 → v ≤ f ∧ v ≠ t) ∧ (i = 6 → v ≤ 20)
def Got (c i : Int) (μ ν : Mem) : Prop := ν 68 0 = c ∧ ∀ k : Int, 0 ≤ k → k < i → μ 32 (7 * c + k).toNat = ν 68 (1 + (7 * c + k).toNat) ∧ Cnd (ν 68 (1 + (7 * c + 4).toNat)) k (ν 68 (1 + (7 * c + k).toNat)) (μ 25 11)
theorem Got.mv {c i : Int} {μ ν μ' ν' : Mem} (h1 : μ' 32 = μ 32) (h2 : ν' 68 = ν 68) (h3 : μ 25 11 ≤ μ' 25 11) (H : Got c i μ ν) : Got c i μ' ν' := by
  unfold Got Cnd at H ⊢
  rw [h1, h2]
  refine ⟨H.1, fun k k1 k2 => ?_⟩
  have h := H.2 k k1 k2
  exact ⟨h.1, h.2.1, h.2.2.1, h.2.2.2.1, h.2.2.2.2.1, h.2.2.2.2.2.1, fun q => by have := h.2.2.2.2.2.2.1 q; omega, fun q => by have := h.2.2.2.2.2.2.2.1 q; omega, h.2.2.2.2.2.2.2.2⟩
theorem Got.put {c i v : Int} {μ ν : Mem} (hc : 0 ≤ c ∧ c ≤ 4) (hi : 0 ≤ i ∧ i ≤ 6) (hv : Cnd (ν 68 (1 + (7 * c + 4).toNat)) i v (μ 25 11)) (H : Got c i μ ν) : Got c (i + 1) (mset μ 32 (7 * c + i).toNat v) (mset ν 68 (1 + (7 * c + i).toNat) v) := by
  refine ⟨by rw [mset_ne (by omega)]; exact H.1, fun k k1 k2 => ?_⟩
  rw [mset_ne (k' := 25) (by omega)]
  by_cases e : k = i
  · subst e
    rw [mset_same, mset_same]
    refine ⟨rfl, ?_⟩
    by_cases f : k = 4
    · subst f
      unfold Cnd at hv ⊢
      omega
    · rw [mset_ne (by omega)]; exact hv
  · rw [mset_ne (k' := 32) (by omega), mset_ne (k' := 68) (i' := 1 + (7 * c + k).toNat) (by omega)]
    have h := H.2 k k1 (by omega)
    refine ⟨h.1, ?_⟩
    by_cases f : i = 4
    · subst f
      unfold Cnd at h ⊢
      omega
    · rw [mset_ne (by omega)]; exact h.2
theorem Got.num {c i : Int} {μ ν μ' ν' : Mem} (h1 : Off M25 μ μ') (h2 : Off M61 ν ν') (H : Got c i μ ν) : Got c i μ' ν' := H.mv (h1.cell (fun j => by unfold M25; omega)) (h2.cell (fun j => by unfold M61; omega)) (by rw [h1 25 11 (by unfold M25; omega)]; exact Int.le_refl _)
theorem DD.cnt {c : Int} {μ ν : Mem} (hc : 0 ≤ c ∧ c ≤ 4) (g : Got c 7 μ ν) (H : DD μ ν) : DD (mset μ 27 10 (wI (μ 27 10 + 1))) (mset ν 68 0 (wI (ν 68 0 + 1))) := by
  obtain ⟨g1, g2⟩ := g
  have h := H.d1
  have h14 := H.d14
  unfold dc_1 at h
  unfold dc_14 at h14
  refine DD.ucnt (Off.rf.set ⟨rfl, rfl⟩) (Off.rf.set ⟨rfl, rfl⟩) ?_ ?_ H
  · unfold dc_1
    rw [mset_same, mset_same, wI_id (by omega), wI_id (by omega)]
    refine ⟨by omega, fun i i1 i2 => ?_⟩
    rw [mset_ne (k' := 32) (by omega), mset_ne (k' := 68) (by omega)]
    by_cases z : i < 7 * ν 68 0
    · exact h.2 i i1 z
    · obtain ⟨k, hk⟩ : ∃ k : Int, i = 7 * c + k := ⟨i - 7 * c, by omega⟩
      have q := g2 k (by omega) (by omega)
      rw [← hk] at q
      unfold Cnd at q
      refine ⟨q.1, q.2.1, fun e => q.2.2.1 (by omega), fun e => q.2.2.2.1 (by omega), fun e => q.2.2.2.2.1 (by omega), fun e => q.2.2.2.2.2.1 (by omega), fun e => q.2.2.2.2.2.2.2.2 (by omega)⟩
  · unfold dc_14
    rw [mset_same, wI_id (by omega), mset_ne (k' := 25) (by omega)]
    intro k k1 k2
    rw [mset_ne (k' := 68) (by omega), mset_ne (k' := 68) (by omega)]
    by_cases z : k < ν 68 0
    · exact h14 k k1 z
    · have e : k = c := by omega
      subst e
      have q4 := g2 4 (by omega) (by omega)
      have q5 := g2 5 (by omega) (by omega)
      unfold Cnd at q4 q5
      have a4 := q4.2.2.2.2.2.2.1 rfl
      have a5 := q5.2.2.2.2.2.2.2.1 rfl
      exact ⟨a4, a5.1, fun e => a5.2 e.symm⟩
/-! the reference's steps -/
def rk7 (ν : Mem) : Option Mem := some (mset ν 68 0 (wI (ν 68 0 + 1)))
def rkn (a b x i : Int) (F : Mem → Option Mem) (ν : Mem) : Option Mem := (mod_readNumber a b ν).bind fun u => (stx u.2 68 185 (wI (x + i)) u.1).bind F
def rk5 (x : Int) (ν : Mem) : Option Mem := (mod_lookedYard ν).bind fun u12 => (stx u12.2 68 185 (wI (x + 5)) u12.1).bind fun μ13 => (ld μ13 68 185 (wI (x + 5))).bind fun v14 => (ld μ13 68 185 (wI (x + 4))).bind fun v15 => if v14 = v15 then (mod_readCart_159 x 0 μ13) else (mod_readCart_159 x 1 μ13)
def rk4 (x : Int) (ν : Mem) : Option Mem := (mod_readYard ν).bind fun u => (stx u.2 68 185 (wI (x + 4)) u.1).bind fun μ => rk5 x μ
def rk1 (x : Int) (ν : Mem) : Option Mem := rkn 0 2 x 1 (rkn 1 9 x 2 (rkn 0 30 x 3 (rk4 x))) ν
theorem e159 (x s : Int) (ν : Mem) : mod_readCart_159 x s ν = (mod_needs s 4 ν).bind fun μ1 => (mod_next μ1).bind fun μ2 => rkn 0 20 x 6 rk7 μ2 := rfl
theorem e49 (x k s : Int) (ν : Mem) : mod_readCart_49 x k s ν = (mod_needs s 2 ν).bind fun μ1 => (mod_next μ1).bind fun μ2 => (stx μ2 68 185 (wI (x + 0)) k).bind fun μ3 => rk1 x μ3 := rfl
def SkF (F : Mem → Option Mem) : Prop := ∀ ν : Mem, 0 < ν 61 23 → Sk ν ((F ν).bind signR)
theorem SkF.set {F : Mem → Option Mem} (h : SkF F) {ν : Mem} {j : Nat} {v : Int} (s : 0 < ν 61 23) : Sk ν ((F (mset ν 68 j v)).bind signR) := Sk.tr (FrM.rf.set (by omega)) (Off.rf.set (by unfold Mrf; omega)) (h _ (by rw [mset_ne (by omega)]; exact s))
theorem SkF7 : SkF rk7 := fun ν s => Sk_set s (by omega)
theorem SkFn {a b x i : Int} {F : Mem → Option Mem} (hx : 1 ≤ x ∧ x ≤ 29 ∧ 0 ≤ i ∧ i ≤ 6) (h : SkF F) : SkF (rkn a b x i F) := fun ν s => by
  unfold rkn
  rw [readNumber_sick s, Option.bind_some]
  dsimp only
  rw [wI_id (by omega), stx_ok (by omega), Option.bind_some]
  exact h.set s
theorem Sk159 {x s : Int} {ν : Mem} (hx : 1 ≤ x ∧ x ≤ 29) (h : 0 < ν 61 23) : Sk ν ((mod_readCart_159 x s ν).bind signR) := by
  rw [e159, needs_sick h, Option.bind_some, mnext_sick h, Option.bind_some]
  exact SkFn (by omega) SkF7 ν h
theorem SkF5 {x : Int} (hx : 1 ≤ x ∧ x ≤ 29) : SkF (rk5 x) := fun ν s => by
  obtain ⟨ν', k1, k2, k3⟩ := lookedYard_sick s
  have s' := k2.sick s
  have s2 : 0 < mset ν' 68 (x + 5).toNat 0 61 23 := by rw [mset_ne (by omega)]; exact s'
  refine Sk.tr k2 k3.zrf ?_
  refine Sk.tr (FrM.rf.set (k := 68) (i := (x + 5).toNat) (v := 0) (by omega)) (Off.rf.set (by unfold Mrf; omega)) ?_
  unfold rk5
  rw [k1, Option.bind_some]
  dsimp only
  rw [wI_id (x := x + 5) (by omega), wI_id (x := x + 4) (by omega), stx_ok (by omega), Option.bind_some, ld_ok (by omega), Option.bind_some, ld_ok (by omega), Option.bind_some]
  split
  · exact Sk159 hx s2
  · exact Sk159 hx s2
theorem SkF4 {x : Int} (hx : 1 ≤ x ∧ x ≤ 29) : SkF (rk4 x) := fun ν s => by
  obtain ⟨ν', k1, k2, k3⟩ := readYard_sick s
  refine Sk.tr k2 k3.zrf ?_
  unfold rk4
  rw [k1, Option.bind_some]
  dsimp only
  rw [wI_id (by omega), stx_ok (by omega), Option.bind_some]
  exact (SkF5 hx).set (k2.sick s)
theorem SkF1 {x : Int} (hx : 1 ≤ x ∧ x ≤ 29) : SkF (rk1 x) := SkFn (by omega) (SkFn (by omega) (SkFn (by omega) (SkF4 hx)))
theorem Sk49 {x k s : Int} {ν : Mem} (hx : 1 ≤ x ∧ x ≤ 29) (h : 0 < ν 61 23) : Sk ν ((mod_readCart_49 x k s ν).bind signR) := by
  rw [e49, needs_sick h, Option.bind_some, mnext_sick h, Option.bind_some, wI_id (by omega), stx_ok (by omega), Option.bind_some]
  exact (SkF1 hx).set h
/-! the other side's steps -/
theorem c70n {f : Nat} {c i a b : Int} {μ : Mem} (hc : 0 ≤ c ∧ c ≤ 4) (hi : 0 ≤ i ∧ i ≤ 6 ∧ i ≠ 4 ∧ i ≠ 5) (ha : ww_atR ([0, 0, 1, 0, 0, 0, 0]) 90 μ i = some a) (hb : ww_atR ([4, 2, 9, 30, 20, 20, 20]) 91 μ i = some b) : rea_takeCart_70 (f + 1) c i μ = (rea_takeNumber a b μ).bind fun u => if 0 ≤ u.1 then rea_takeCart_70 f c (i + 1) (mset u.2 32 (7 * c + i).toNat u.1) else some (0, u.2) := by
  rw [rea_takeCart_70.eq_2, if_neg (by omega), if_neg (by omega), if_neg (by omega), rea_takeCart_91.eq_1, if_pos rfl, ha, Option.bind_some, hb, Option.bind_some]
  congr 1
  funext u
  rw [rea_takeCart_123.eq_1]
  by_cases z : 0 ≤ u.1
  · rw [if_pos z, if_pos z, if_neg (by omega), rea_takeCart_161.eq_1, swapPart_eq (by omega), Option.bind_some, wI_id (by omega)]
  · rw [if_neg z, if_neg z]
theorem c70y {f : Nat} {c : Int} {μ : Mem} (hc : 0 ≤ c ∧ c ≤ 4) : rea_takeCart_70 (f + 1) c 4 μ = (rea_takeYard μ).bind fun u => if 0 ≤ u.1 then rea_takeCart_70 f c 5 (mset u.2 32 (7 * c + 4).toNat u.1) else some (0, u.2) := by
  rw [rea_takeCart_70.eq_2, if_neg (by omega), if_pos rfl, rea_takeCart_91.eq_1, if_neg (by omega)]
  congr 1
  funext u
  rw [rea_takeCart_123.eq_1]
  by_cases z : 0 ≤ u.1
  · rw [if_pos z, if_pos z, if_neg (by omega), rea_takeCart_161.eq_1, swapPart_eq (by omega), Option.bind_some, wI_id (by omega)]
    rfl
  · rw [if_neg z, if_neg z]
theorem c70g {f : Nat} {c : Int} {μ : Mem} (hc : 0 ≤ c ∧ c ≤ 4) : rea_takeCart_70 (f + 1) c 5 μ = (rea_takeYard μ).bind fun u => if 0 ≤ u.1 then (if u.1 = u.2 32 (7 * c + 4).toNat then ((rea_refuse 4 (u.2 25 6) u.2).bind fun u2 => some (u2.1, u2.2)) else rea_takeCart_70 f c 6 (mset u.2 32 (7 * c + 5).toNat u.1)) else some (0, u.2) := by
  rw [rea_takeCart_70.eq_2, if_neg (by omega), if_neg (by omega), if_pos rfl, rea_takeCart_91.eq_1, if_neg (by omega)]
  congr 1
  funext u
  rw [rea_takeCart_123.eq_1]
  by_cases z : 0 ≤ u.1
  · rw [if_pos z, if_pos z, if_pos rfl, part_eq (by omega), Option.bind_some, rea_takeCart_161.eq_1, swapPart_eq (by omega), Option.bind_some, wI_id (by omega)]
    rfl
  · rw [if_neg z, if_neg z]
theorem c70e {f : Nat} {c : Int} {μ : Mem} : rea_takeCart_70 (f + 1) c 7 μ = (rea_takeSign (mset μ 27 10 (wI (μ 27 10 + 1)))).bind fun u => some (u.1, u.2) := by
  rw [rea_takeCart_70.eq_2, if_pos (by omega), bnd.eq_1]
/-! both -/
def Nx (B : Int → Int) (n c i : Int) (G : Mem → Option (Int × Mem)) (F : Mem → Option Mem) : Prop := ∀ μ ν : Mem, Rdy B n μ ν → DD μ ν → Got c i μ ν → Out B n μ ν (G μ) ((F ν).bind signR)
theorem Nx.num {B : Int → Int} {n c i i1 a b x : Int} {f : Nat} {F : Mem → Option Mem} (hc : 0 ≤ c ∧ c ≤ 4) (hx : x = 1 + 7 * c) (hi : 0 ≤ i ∧ i ≤ 6 ∧ i ≠ 4 ∧ i ≠ 5) (h1 : i1 = i + 1) (ha : ∀ μ, ww_atR ([0, 0, 1, 0, 0, 0, 0]) 90 μ i = some a) (hb : ∀ μ, ww_atR ([4, 2, 9, 30, 20, 20, 20]) 91 μ i = some b) (h0 : 0 ≤ a) (hv : ∀ t v g, a ≤ v → v ≤ b → Cnd t i v g) (hs : SkF F) (N : Nx B n c i1 (rea_takeCart_70 f c i1) F) : Nx B n c i (rea_takeCart_70 (f + 1) c i) (rkn a b x i F) := by
  subst h1
  intro μ ν H D g
  obtain ⟨u, μ1, w, ν1, k1, k2, k3, k4, k5, k6⟩ := L_rnum a b H
  refine Out.tr k3.my.yrd k4.mz.zrf k5 ?_
  have g1 := g.num k3 k4
  have D1 := D.tok k3 k4
  unfold rkn
  rw [c70n hc hi (ha μ) (hb μ), k1, Option.bind_some, k2, Option.bind_some]
  dsimp only
  rw [wI_id (by omega), stx_ok (by omega), Option.bind_some, show (x + i).toNat = 1 + (7 * c + i).toNat by omega]
  rcases k6 with ⟨q1, q2, q3⟩ | ⟨q1, q2, q3⟩
  · rw [if_pos (by omega), q2]
    exact Out.tr (Off.rf.set (k := 32) (i := (7 * c + i).toNat) (v := u) (by unfold Mrd; omega)) (Off.rf.set (k := 68) (i := 1 + (7 * c + i).toNat) (v := u) (by unfold Mrf; omega)) (by rw [mset_ne (by omega)]; exact Int.le_refl _) (N _ _ (fr_rdy (by omega) (by omega) q3) (D1.bey hc (by omega) g1.1) (g1.put hc (by omega) (hv _ _ _ q1.1 q1.2)))
  · rw [if_neg (by omega), q2]
    exact Out_bad q3 (hs.set q3.1)
theorem Nx.yard {B : Int → Int} {n c x : Int} {f : Nat} (hc : 0 ≤ c ∧ c ≤ 4) (hx : x = 1 + 7 * c) (N : Nx B n c 5 (rea_takeCart_70 f c 5) (rk5 x)) : Nx B n c 4 (rea_takeCart_70 (f + 1) c 4) (rk4 x) := by
  intro μ ν H D g
  obtain ⟨u, μ1, w, ν1, k1, k2, k3, k4, k5, k6⟩ := L_ryard H D
  refine Out.tr k3.yrd k4.zrf k5 ?_
  unfold rk4
  rw [c70y hc, k1, Option.bind_some, k2, Option.bind_some]
  dsimp only
  rw [wI_id (by omega), stx_ok (by omega), Option.bind_some, show (x + 4).toNat = 1 + (7 * c + 4).toNat by omega]
  rcases k6 with ⟨q1, q2, q3, q4, q5, q6⟩ | ⟨q1, q2, q3⟩
  · have g1 : Got c 4 μ1 ν1 := g.mv (k3.cell (fun j => by unfold My; omega)) (k4.cell (fun j => by unfold Mz; omega)) q6
    rw [if_pos (by omega), q2]
    refine Out.tr (Off.rf.set (k := 32) (i := (7 * c + 4).toNat) (v := u) (by unfold Mrd; omega)) (Off.rf.set (k := 68) (i := 1 + (7 * c + 4).toNat) (v := u) (by unfold Mrf; omega)) (by rw [mset_ne (by omega)]; exact Int.le_refl _) (N _ _ (fr_rdy (by omega) (by omega) q3) (q4.bey hc (by omega) g1.1) (g1.put hc (by omega) ?_))
    unfold Cnd
    omega
  · rw [if_neg (by omega), q2]
    exact Out_bad q3 ((SkF5 (by omega)).set q3.1)
theorem Nx.goal {B : Int → Int} {n c x : Int} {f : Nat} (hc : 0 ≤ c ∧ c ≤ 4) (hx : x = 1 + 7 * c) (N : Nx B n c 6 (rea_takeCart_70 f c 6) (rkn 0 20 x 6 rk7)) : Nx B n c 5 (rea_takeCart_70 (f + 1) c 5) (rk5 x) := by
  intro μ ν H D g
  obtain ⟨u, μ1, w, ν1, k1, k2, k3, k4, k5, k6⟩ := L_yard H D
  refine Out.tr k3.yrd k4.zrf k5 ?_
  unfold rk5
  rw [c70g hc, k1, Option.bind_some, k2, Option.bind_some]
  dsimp only
  rw [wI_id (x := x + 5) (by omega), wI_id (x := x + 4) (by omega), stx_ok (by omega), Option.bind_some, ld_ok (by omega), Option.bind_some, ld_ok (by omega), Option.bind_some, mset_same, mset_ne (by omega), show (x + 5).toNat = 1 + (7 * c + 5).toNat by omega, show (x + 4).toNat = 1 + (7 * c + 4).toNat by omega]
  rcases k6 with ⟨q1, q2, q3, q4, q5, q6⟩ | ⟨q1, q2, q3⟩
  · have g1 : Got c 5 μ1 ν1 := g.mv (k3.cell (fun j => by unfold My; omega)) (k4.cell (fun j => by unfold Mz; omega)) q6
    have g4 := (g1.2 4 (by omega) (by omega)).1
    rw [if_pos (by omega), q2]
    have o2 : Off Mrf ν1 (mset ν1 68 (1 + (7 * c + 5).toNat) u) := Off.rf.set (by unfold Mrf; omega)
    by_cases z : u = ν1 68 (1 + (7 * c + 4).toNat)
    · rw [if_pos (z.trans g4.symm), if_pos z]
      refine Out.tr Off.rf o2 (Int.le_refl _) (Out_refuse (q3.fr FrC.rf (FrM.rf.set (by omega))) (by omega) ?_)
      rw [e159, needs0 (by rw [mset_ne (by omega)]; exact q3.2.2.2.1), Option.bind_some]
      have h := Sk159 (x := x) (s := 1) (ν := sickM (mset ν1 68 (1 + (7 * c + 5).toNat) u) 4) (by omega) sick4
      rw [e159, needs1, Option.bind_some] at h
      exact h
    · rw [if_neg (fun q => z (q.trans g4)), if_neg z]
      obtain ⟨ν2, x1, x2, x3⟩ := L_next (fr_had (a := 32) (i := (7 * c + 5).toNat) (v := u) (b := 68) (j := 1 + (7 * c + 5).toNat) (w := u) (by omega) (by omega) q3)
      rw [e159, needs1, Option.bind_some, x1, Option.bind_some]
      refine Out.tr (Off.rf.set (by unfold Mrd; omega)) (o2.tr x2.mz.zrf) (by rw [mset_ne (by omega)]; exact Int.le_refl _) (N _ _ x3 ((q4.bey hc (by omega) g1.1).tok Off.rf x2) ((g1.put hc (by omega) ?_).num Off.rf x2))
      unfold Cnd
      omega
  · rw [if_neg (by omega), q2]
    refine Out_bad q3 ?_
    have s2 : 0 < mset ν1 68 (1 + (7 * c + 5).toNat) 0 61 23 := by rw [mset_ne (by omega)]; exact q3.1
    refine Sk.tr (FrM.rf.set (k := 68) (i := 1 + (7 * c + 5).toNat) (v := 0) (by omega)) (Off.rf.set (by unfold Mrf; omega)) ?_
    split
    · exact Sk159 (by omega) s2
    · exact Sk159 (by omega) s2
theorem Nx.fin {B : Int → Int} {n c : Int} {f : Nat} (hc : 0 ≤ c ∧ c ≤ 4) : Nx B n c 7 (rea_takeCart_70 (f + 1) c 7) rk7 := by
  intro μ ν H D g
  unfold rk7
  rw [c70e, Option.bind_some]
  exact Out.tr (Off.rf.set (by unfold Mrd; omega)) (Off.rf.set (by unfold Mrf; omega)) (by rw [mset_ne (by omega)]; exact Int.le_refl _) (Out_sign (fr_rdy (by omega) (by omega) H) (D.cnt hc g))
theorem Nx.all {B : Int → Int} {n c x : Int} {f : Nat} (hc : 0 ≤ c ∧ c ≤ 4) (hx : x = 1 + 7 * c) : Nx B n c 1 (rea_takeCart_70 (f + 7) c 1) (rk1 x) := by
  have n7 : Nx B n c 7 (rea_takeCart_70 (f + 1) c 7) rk7 := Nx.fin hc
  have n6 : Nx B n c 6 (rea_takeCart_70 (f + 2) c 6) (rkn 0 20 x 6 rk7) := Nx.num hc hx (by omega) rfl (fun _ => rfl) (fun _ => rfl) (by omega) (fun t v g h1 h2 => by unfold Cnd; omega) SkF7 n7
  have n5 : Nx B n c 5 (rea_takeCart_70 (f + 3) c 5) (rk5 x) := Nx.goal hc hx n6
  have n4 : Nx B n c 4 (rea_takeCart_70 (f + 4) c 4) (rk4 x) := Nx.yard hc hx n5
  have n3 : Nx B n c 3 (rea_takeCart_70 (f + 5) c 3) (rkn 0 30 x 3 (rk4 x)) := Nx.num hc hx (by omega) rfl (fun _ => rfl) (fun _ => rfl) (by omega) (fun t v g h1 h2 => by unfold Cnd; omega) (SkF4 (by omega)) n4
  have n2 : Nx B n c 2 (rea_takeCart_70 (f + 6) c 2) (rkn 1 9 x 2 (rkn 0 30 x 3 (rk4 x))) := Nx.num hc hx (by omega) rfl (fun _ => rfl) (fun _ => rfl) (by omega) (fun t v g h1 h2 => by unfold Cnd; omega) (SkFn (by omega) (SkF4 (by omega))) n3
  exact Nx.num hc hx (by omega) rfl (fun _ => rfl) (fun _ => rfl) (by omega) (fun t v g h1 h2 => by unfold Cnd; omega) (SkFn (by omega) (SkFn (by omega) (SkF4 (by omega)))) n2
theorem kind_both {B : Int → Int} {n : Int} {μ ν : Mem} (H : Had B n μ ν) : (∃ j : Nat, j < 5 ∧ rea_kindNamed μ = some (j : Int) ∧ ν 61 21 = 1 ∧ mod_kindNow ν = some (j : Int)) ∨ (rea_kindNamed μ = some (-1) ∧ (ν 61 21 = 1 → mod_kindNow ν = some (-4))) := by
  obtain ⟨h1, h2, h3, h4, h5, h6, h7⟩ := H
  have nm := fun j hj => isName_eq (μ := μ) (B := B) (n := n) j hj h1 ⟨h6.1, h6.2.2, h6.2.1⟩
  obtain ⟨m1, m2⟩ := kindNow_eq (ν := ν) (B := B) (n := n) h2 h5.1.symm h5.2.2.symm h6
  rw [rea_kindNamed.eq_1]
  have z0 : ∀ j : Nat, j < 14 → ¬ (μ 25 5 = 1 ∧ Wd B (μ 25 6) (μ 25 7) j) → ∀ A C : Option Int, ((rea_isName j μ).bind fun u => if u = 0 then A else C) = A := fun j hj q A C => by rw [(nm j hj).2 q, Option.bind_some, if_pos rfl]
  have z1 : ∀ j : Nat, j < 14 → (μ 25 5 = 1 ∧ Wd B (μ 25 6) (μ 25 7) j) → ∀ A C : Option Int, ((rea_isName j μ).bind fun u => if u = 0 then A else C) = C := fun j hj q A C => by rw [(nm j hj).1 q, Option.bind_some, if_neg (by omega)]
  by_cases p0 : μ 25 5 = 1 ∧ Wd B (μ 25 6) (μ 25 7) 9
  · exact Or.inl ⟨0, by omega, z1 9 (by omega) p0 _ _, by omega, m1 0 (by omega) p0.2⟩
  rw [z0 9 (by omega) p0]
  by_cases p1 : μ 25 5 = 1 ∧ Wd B (μ 25 6) (μ 25 7) 10
  · exact Or.inl ⟨1, by omega, z1 10 (by omega) p1 _ _, by omega, m1 1 (by omega) p1.2⟩
  rw [z0 10 (by omega) p1]
  by_cases p2 : μ 25 5 = 1 ∧ Wd B (μ 25 6) (μ 25 7) 11
  · exact Or.inl ⟨2, by omega, z1 11 (by omega) p2 _ _, by omega, m1 2 (by omega) p2.2⟩
  rw [z0 11 (by omega) p2]
  by_cases p3 : μ 25 5 = 1 ∧ Wd B (μ 25 6) (μ 25 7) 12
  · exact Or.inl ⟨3, by omega, z1 12 (by omega) p3 _ _, by omega, m1 3 (by omega) p3.2⟩
  rw [z0 12 (by omega) p3]
  by_cases p4 : μ 25 5 = 1 ∧ Wd B (μ 25 6) (μ 25 7) 13
  · exact Or.inl ⟨4, by omega, z1 13 (by omega) p4 _ _, by omega, m1 4 (by omega) p4.2⟩
  rw [z0 13 (by omega) p4]
  refine Or.inr ⟨rfl, fun e => m2 (fun j hj q => ?_)⟩
  have e1 : μ 25 5 = 1 := by omega
  have hh : j = 0 ∨ j = 1 ∨ j = 2 ∨ j = 3 ∨ j = 4 := by omega
  rcases hh with rfl | rfl | rfl | rfl | rfl
  · exact p0 ⟨e1, q⟩
  · exact p1 ⟨e1, q⟩
  · exact p2 ⟨e1, q⟩
  · exact p3 ⟨e1, q⟩
  · exact p4 ⟨e1, q⟩
theorem rl7 (ν : Mem) : mod_readLineOf 7 ν = mod_readCart ν := by
  rw [mod_readLineOf.eq_1, if_neg (by omega), if_neg (by omega), if_neg (by omega), if_neg (by omega), if_neg (by omega), if_pos rfl, bse]
theorem L_cart {B : Int → Int} {n : Int} {μ ν : Mem} (H : Rdy B n μ ν) (hD : DD μ ν) (h10 : μ 27 10 < 5) : Out B n μ ν (rea_takeCart μ) ((mod_readLineOf 7 ν).bind signR) := by
  obtain ⟨u, μ1, k1, k2, k3, k4⟩ := L_take H
  have D1 : DD μ1 ν := hD.tok k2 Off.rf
  have hB := BIG_gt
  obtain ⟨g, hg⟩ : ∃ g, BIG = g + 7 := ⟨BIG - 7, by omega⟩
  have d1 := D1.d1
  unfold dc_1 at d1
  have e10 : μ1 27 10 = μ 27 10 := k2 _ _ (by unfold M25; omega)
  obtain ⟨c, hc⟩ : ∃ c, c = ν 68 0 := ⟨_, rfl⟩
  refine Out.tr k2.my.yrd Off.rf k3 ?_
  rw [rea_takeCart.eq_1, if_pos h10, k1, Option.bind_some, rl7, mod_readCart.eq_1, bnd.eq_1, ← hc, wI_id (x := 7 * c) (by omega), wI_id (by omega)]
  dsimp only
  rcases k4 with ⟨q1, q2⟩ | ⟨q1, q2⟩
  · have f0 := q2.2.2.2.1
    rw [if_neg (by omega), if_pos f0]
    rcases kind_both q2 with ⟨j, j1, j2, j3, j4⟩ | ⟨j2, j4⟩
    · obtain ⟨ν2, x1, x2, x3⟩ := L_next q2
      rw [j2, Option.bind_some, if_pos (by omega), bnd.eq_1, d1.1.2, ← hc, swapPart_eq (by omega), Option.bind_some, if_pos j3, j4, Option.bind_some, mod_readCart_36.eq_1, if_neg (by omega), e49, needs1, Option.bind_some, x1, Option.bind_some, wI_id (by omega), stx_ok (by omega), Option.bind_some, show (1 + 7 * c + 0).toNat = 1 + (7 * c + 0).toNat by omega, hg]
      have D2 : DD μ1 ν2 := D1.tok Off.rf x2
      have g0 : Got c 0 μ1 ν2 := ⟨by rw [x2 68 0 (by unfold M61; omega)]; exact hc.symm, fun k h1 h2 => by omega⟩
      refine Out.tr (Off.rf.set (k := 32) (i := (7 * c + 0).toNat) (v := (j : Int)) (by unfold Mrd; omega)) (x2.mz.zrf.set (k := 68) (i := 1 + (7 * c + 0).toNat) (v := (j : Int)) (by unfold Mrf; omega)) (by rw [mset_ne (by omega)]; exact Int.le_refl _) (Nx.all (by omega) rfl _ _ (fr_rdy (by omega) (by omega) x3) (D2.bey (by omega) (by omega) g0.1) (g0.put (by omega) (by omega) ?_))
      unfold Cnd
      omega
    · have e : (if ν 61 21 = 1 then ((mod_kindNow ν).bind fun u2 => mod_readCart_36 (1 + 7 * c) u2 ν) else (mod_readCart_36 (1 + 7 * c) (-4) ν)) = mod_readCart_36 (1 + 7 * c) (-4) ν := by
        by_cases z : ν 61 21 = 1
        · rw [if_pos z, j4 z, Option.bind_some]
        · rw [if_neg z]
      rw [j2, Option.bind_some, if_neg (by omega), e, mod_readCart_36.eq_1, if_pos rfl]
      refine Out_refuse q2 (by omega) ?_
      rw [e49, needs0 f0, Option.bind_some]
      have h := Sk49 (x := 1 + 7 * c) (k := -4) (s := 1) (ν := sickM ν 2) (by omega) (by rw [sickM_23]; omega)
      rw [e49, needs1, Option.bind_some] at h
      exact h
  · rw [if_pos q1, if_neg (by have := q2.1; omega), mod_readCart_36.eq_1, if_pos rfl]
    exact Out_bad q2 (Sk49 (by omega) q2.1)
theorem S_cart {B : Int → Int} {n : Int} {μ ν : Mem} (H : Rdy B n μ ν) (h : 0 < ν 61 23) (h10 : μ 27 10 < 5) : Out B n μ ν (rea_takeCart μ) (some ν) := by
  obtain ⟨u, μ1, k1, k2, k3, k4⟩ := L_take H
  rcases k4 with ⟨q1, q2⟩ | ⟨q1, q2⟩
  · have := q2.2.2.2.1; omega
  · rw [rea_takeCart.eq_1, if_pos h10, k1, Option.bind_some]
    dsimp only
    rw [if_pos q1]
    exact Out_fail k2.my k3 q2
