theorem uq_id {S : Rd} {a : Nat} {i v : Int} (h : S a i = v) : uq S a i v = S := by
  funext b j
  rw [uq_ap]
  by_cases z : b = a ∧ j = i
  · rw [if_pos z, z.1, z.2, h]
  · rw [if_neg z]
theorem uq_comm {S : Rd} {a a' : Nat} {i i' v v' : Int} (h : a ≠ a') : uq (uq S a i v) a' i' v' = uq (uq S a' i' v') a i v := by
  funext b j
  rw [uq_ap, uq_ap, uq_ap, uq_ap]
  by_cases z : b = a' ∧ j = i'
  · rw [if_pos z, if_neg (by omega), if_pos z]
  · rw [if_neg z, if_neg z]
def enM (μ : Mem) (c y p v : Int) : Mem := mset (mset (mset μ 35 10 v) 38 c.toNat y) 39 c.toNat p
def sdM (μ : Mem) (k v : Int) : Mem := mset (mset μ 42 k.toNat v) 43 k.toNat (μ 35 8)
theorem CM.en {μ : Mem} {R S : Rd} {c y p v : Int} (hc : 0 ≤ c) (H : CM μ R S) : CM (enM μ c y p v) R (uq (uq (uq S 6 0 v) 0 c y) 1 c p) := by
  obtain ⟨⟨h1, h2, h3, h4, h5⟩, h6⟩ := H
  unfold enM
  refine ⟨⟨fun d d1 d2 => ?_, fun k k1 k2 => ?_, ?_, ?_, ?_⟩, ?_⟩
  · obtain ⟨a1, a2, a3, a4⟩ := h1 d d1 d2
    refine ⟨?_, ?_, ?_, ?_⟩
    · rw [mset_off (by omega), mset_ap, uq_ap, if_neg (show ¬ ((0 : Nat) = 1 ∧ d = c) by omega), uq_ap]
      by_cases z : d = c
      · rw [if_pos (show (38 : Nat) = 38 ∧ d.toNat = c.toNat from ⟨rfl, by rw [z]⟩), if_pos (show (0 : Nat) = 0 ∧ d = c from ⟨rfl, z⟩)]
      · rw [if_neg (show ¬ ((38 : Nat) = 38 ∧ d.toNat = c.toNat) by omega), if_neg (show ¬ ((0 : Nat) = 0 ∧ d = c) from fun q => z q.2), mset_off (by omega), uq_ap, if_neg (by omega)]; exact a1
    · rw [mset_ap, uq_ap]
      by_cases z : d = c
      · rw [if_pos (show (39 : Nat) = 39 ∧ d.toNat = c.toNat from ⟨rfl, by rw [z]⟩), if_pos (show (1 : Nat) = 1 ∧ d = c from ⟨rfl, z⟩)]
      · rw [if_neg (show ¬ ((39 : Nat) = 39 ∧ d.toNat = c.toNat) by omega), if_neg (show ¬ ((1 : Nat) = 1 ∧ d = c) from fun q => z q.2), mset_off (by omega), mset_off (by omega), uq_ap, if_neg (by omega), uq_ap, if_neg (by omega)]; exact a2
    · rw [mset_off (by omega), mset_off (by omega), mset_off (by omega), uq_ap, if_neg (by omega), uq_ap, if_neg (by omega), uq_ap, if_neg (by omega)]; exact a3
    · rw [mset_off (by omega), mset_off (by omega), mset_off (by omega), uq_ap, if_neg (by omega), uq_ap, if_neg (by omega), uq_ap, if_neg (by omega)]; exact a4
  · rw [mset_off (by omega), mset_off (by omega), mset_off (by omega), mset_off (by omega), mset_off (by omega), mset_off (by omega), mset_off (by omega), mset_off (by omega), mset_ne (by omega), uq_ap, if_neg (by omega), uq_ap, if_neg (by omega), uq_ap, if_neg (by omega)]; exact h2 k k1 k2
  · rw [mset_off (by omega), mset_off (by omega), mset_ne (by omega)]; exact h3
  · rw [mset_off (by omega), mset_off (by omega), mset_ne (by omega), h4]
    refine (leftN_same _ (fun d _ _ => ?_)).symm
    rw [uq_ap, if_neg (by omega), uq_ap, if_neg (by omega), uq_ap, if_neg (by omega)]
  · rw [mset_off (by omega), mset_off (by omega), mset_same, uq_ap, if_neg (by omega), uq_ap, if_neg (by omega), uq_ap, if_pos ⟨rfl, rfl⟩]
  · rw [mset_off (by omega), mset_off (by omega), mset_ne (by omega), uq_ap, if_neg (by omega), uq_ap, if_neg (by omega), uq_ap, if_neg (by omega)]; exact h6
theorem CM.sd {μ : Mem} {R S : Rd} {k v : Int} (hk : 0 ≤ k) (hv : 0 ≤ v ∧ v ≤ 99) (H : CM μ R S) : CM (sdM μ k v) R (uq S 4 k v) := by
  obtain ⟨⟨h1, h2, h3, h4, h5⟩, h6⟩ := H
  unfold sdM
  refine ⟨⟨fun d d1 d2 => ?_, fun j j1 j2 => ?_, ?_, ?_, ?_⟩, ?_⟩
  · rw [mset_off (by omega), mset_off (by omega), mset_off (by omega), mset_off (by omega), mset_off (by omega), mset_off (by omega), mset_off (by omega), mset_off (by omega), uq_ap, if_neg (by omega), uq_ap, if_neg (by omega), uq_ap, if_neg (by omega), uq_ap, if_neg (by omega)]
    exact h1 d d1 d2
  · rw [mset_off (a := 42) (by omega), mset_ap μ, mset_ap _ 43, mset_off (a := 43) (k := 42) (by omega), mset_off (a := 35) (by omega), mset_off (a := 35) (by omega), uq_ap]
    by_cases z : j = k
    · have e1 : (42 : Nat) = 42 ∧ j.toNat = k.toNat := ⟨rfl, by rw [z]⟩
      have e2 : (43 : Nat) = 43 ∧ j.toNat = k.toNat := ⟨rfl, by rw [z]⟩
      have e3 : (4 : Nat) = 4 ∧ j = k := ⟨rfl, z⟩
      rw [if_pos e1, if_pos e2, if_pos e3]
      refine ⟨hv, by omega, ?_⟩
      unfold iMax; split <;> omega
    · have e1 : ¬ ((42 : Nat) = 42 ∧ j.toNat = k.toNat) := by omega
      have e2 : ¬ ((43 : Nat) = 43 ∧ j.toNat = k.toNat) := by omega
      have e3 : ¬ ((4 : Nat) = 4 ∧ j = k) := fun q => z q.2
      rw [if_neg e1, if_neg e2, if_neg e3]
      exact h2 j j1 j2
  · rw [mset_off (by omega), mset_off (by omega)]; exact h3
  · rw [mset_off (by omega), mset_off (by omega), h4]
    refine (leftN_same _ (fun d _ _ => ?_)).symm
    rw [uq_ap, if_neg (by omega)]
  · rw [mset_off (by omega), mset_off (by omega), uq_ap, if_neg (by omega)]; exact h5
  · rw [mset_off (by omega), mset_off (by omega), uq_ap, if_neg (by omega)]; exact h6
theorem CM.dn {μ : Mem} {R S : Rd} {c h : Int} (hc : 0 ≤ c ∧ c < R 0 1) (hn : S 3 c = -4) (hh : 1 ≤ h) (H : CM μ R S) : CM (mset (mset μ 41 c.toNat h) 35 9 (μ 35 9 - 1)) R (uq S 3 c h) := by
  obtain ⟨⟨h1, h2, h3, h4, h5⟩, h6⟩ := H
  refine ⟨⟨fun d d1 d2 => ?_, fun j j1 j2 => ?_, ?_, ?_, ?_⟩, ?_⟩
  · obtain ⟨a1, a2, a3, a4⟩ := h1 d d1 d2
    refine ⟨?_, ?_, ?_, ?_⟩
    · rw [mset_off (by omega), mset_off (by omega), uq_ap, if_neg (by omega)]; exact a1
    · rw [mset_off (by omega), mset_off (by omega), uq_ap, if_neg (by omega)]; exact a2
    · rw [mset_off (by omega), mset_off (by omega), uq_ap, if_neg (by omega)]; exact a3
    · rw [mset_off (by omega), mset_ap, uq_ap]
      by_cases z : d = c
      · rw [if_pos (show (41 : Nat) = 41 ∧ d.toNat = c.toNat from ⟨rfl, by rw [z]⟩), if_pos (show (3 : Nat) = 3 ∧ d = c from ⟨rfl, z⟩)]
        unfold dn0; rw [if_neg (by omega)]
      · rw [if_neg (show ¬ ((41 : Nat) = 41 ∧ d.toNat = c.toNat) by omega), if_neg (show ¬ ((3 : Nat) = 3 ∧ d = c) from fun q => z q.2)]; exact a4
  · rw [mset_off (by omega), mset_off (by omega), mset_off (a := 43) (by omega), mset_off (a := 43) (by omega), mset_ne (by omega), mset_off (a := 35) (by omega), uq_ap, if_neg (by omega)]
    exact h2 j j1 j2
  · rw [mset_ne (by omega), mset_off (by omega)]; exact h3
  · rw [mset_same, h4]
    refine (leftN_less (d := c) _ hc.1 (by omega) hn ?_ (fun d d1 d2 d3 => ?_)).symm
    · rw [uq_ap, if_pos ⟨rfl, rfl⟩]; omega
    · rw [uq_ap, if_neg (fun q => d3 q.2)]
  · rw [mset_ne (by omega), mset_off (by omega), uq_ap, if_neg (by omega)]; exact h5
  · rw [mset_ne (by omega), mset_off (by omega), uq_ap, if_neg (by omega)]; exact h6
theorem CM.wt {μ : Mem} {R S : Rd} {c : Int} (hc : 0 ≤ c) (H : CM μ R S) : CM (mset (mset μ 40 c.toNat (S 2 c + 1)) 35 12 (iOr (S 5 0) (iShl 1 c))) R (waitP S c) := by
  obtain ⟨⟨h1, h2, h3, h4, h5⟩, h6⟩ := H
  unfold waitP
  refine ⟨⟨fun d d1 d2 => ?_, fun j j1 j2 => ?_, ?_, ?_, ?_⟩, ?_⟩
  · obtain ⟨a1, a2, a3, a4⟩ := h1 d d1 d2
    refine ⟨?_, ?_, ?_, ?_⟩
    · rw [mset_off (by omega), mset_off (by omega), uq_ap, if_neg (by omega), uq_ap, if_neg (by omega)]; exact a1
    · rw [mset_off (by omega), mset_off (by omega), uq_ap, if_neg (by omega), uq_ap, if_neg (by omega)]; exact a2
    · rw [mset_off (by omega), mset_ap, uq_ap, if_neg (show ¬ ((2 : Nat) = 5 ∧ d = 0) by omega), uq_ap]
      by_cases z : d = c
      · rw [if_pos (show (40 : Nat) = 40 ∧ d.toNat = c.toNat from ⟨rfl, by rw [z]⟩), if_pos (show (2 : Nat) = 2 ∧ d = c from ⟨rfl, z⟩)]
      · rw [if_neg (show ¬ ((40 : Nat) = 40 ∧ d.toNat = c.toNat) by omega), if_neg (show ¬ ((2 : Nat) = 2 ∧ d = c) from fun q => z q.2)]; exact a3
    · rw [mset_off (by omega), mset_off (by omega), uq_ap, if_neg (by omega), uq_ap, if_neg (by omega)]; exact a4
  · rw [mset_off (by omega), mset_off (by omega), mset_off (a := 43) (by omega), mset_off (a := 43) (by omega), mset_ne (by omega), mset_off (a := 35) (by omega), uq_ap, if_neg (by omega), uq_ap, if_neg (by omega)]
    exact h2 j j1 j2
  · rw [mset_ne (by omega), mset_off (by omega)]; exact h3
  · rw [mset_ne (by omega), mset_off (by omega), h4]
    refine (leftN_same _ (fun d _ _ => ?_)).symm
    rw [uq_ap, if_neg (by omega), uq_ap, if_neg (by omega)]
  · rw [mset_ne (by omega), mset_off (by omega), uq_ap, if_neg (by omega), uq_ap, if_neg (by omega)]; exact h5
  · rw [mset_same, uq_ap, if_pos ⟨rfl, rfl⟩]
theorem enM_off {μ : Mem} {c y p v : Int} : Off Crun μ (enM μ c y p v) := ((Off.rf.set (by unfold Crun; omega)).set (by unfold Crun; omega)).set (by unfold Crun; omega)
theorem sdM_off {μ : Mem} {k v : Int} : Off Crun μ (sdM μ k v) := (Off.rf.set (by unfold Crun; omega)).set (by unfold Crun; omega)
theorem setDepth_eq {μ : Mem} {k v : Int} (hk : 0 ≤ k ∧ k < 63) : run_setDepth k v μ = some (sdM μ k v) := by
  unfold run_setDepth
  rw [put_in (by omega), Option.bind_some, mset_off (a := 35) (by omega), put_in (by omega), Option.bind_some]; rfl
theorem ctoll {μ : Mem} {R : Rd} {c y w : Int} (hR : RCr μ R) (hO : Okr R) (hc : 0 ≤ c ∧ c < R 0 1) (hk : 0 ≤ y ∧ y < 21 ∧ 0 ≤ w ∧ w < 3) : roa_tollOf 1 μ c y w = some (tollP R c (3 * y + w)) := by
  have hb := hO.1
  unfold roa_tollOf tollP
  rw [cpart hR (by omega) (by omega), Option.bind_some, rut_eq (by omega), Option.bind_some, at_in (by omega), Option.bind_some, show μ (1 + 3) (3 * y + w).toNat = R 4 (3 * y + w) from hR.2.2.2.1 _ (by omega) (by omega)]
  split <;> rfl
/-- the state in which a cart has come into a yard, ahead of whether it is its goal -/
def inP1 (R S : Rd) (c : Int) : Rd := uq (uq (uq (uq S 6 0 (S 6 0 + 1)) 0 c (nxt R S c)) 1 c (S 1 c + tollP R c (3 * nxt R S c + pt R c 1))) 4 (3 * nxt R S c + pt R c 1) (deepP R S c (3 * nxt R S c + pt R c 1))
theorem enter_eq {μ : Mem} {R S : Rd} {c t : Int} (hR : RCr μ R) (hO : Okr R) (hS : CM μ R S) (hV : RV R S t) (ht : t ≤ 100000) (hc : 0 ≤ c ∧ c < R 0 1) (hn : 0 ≤ nxt R S c ∧ nxt R S c ≤ R 0 0) : ∃ μ', run_enter c (nxt R S c) (pt R c 1) μ = some μ' ∧ Off Crun μ μ' ∧ CM μ' R (inP1 R S c) := by
  have hb := hO.1
  have hpc := hO.2.2.2.2.2.1 c hc.1 hc.2
  have hv := hV.1 c hc.1 hc.2
  have hk : 0 ≤ 3 * nxt R S c + pt R c 1 ∧ 3 * nxt R S c + pt R c 1 < 63 := by omega
  have htl := hO.2.2.2.1 _ hk.1 hk.2
  have htp : 0 ≤ tollP R c (3 * nxt R S c + pt R c 1) ∧ tollP R c (3 * nxt R S c + pt R c 1) ≤ 9 := by unfold tollP; split <;> omega
  have h4 := hV.2.1 _ hk.1 hk.2
  have hR2 : RCr (mset (mset μ 35 10 (S 6 0 + 1)) 38 c.toNat (nxt R S c)) R := (hR.set (by omega)).set (by omega)
  have hRe : RCr (enM μ c (nxt R S c) (S 1 c + tollP R c (3 * nxt R S c + pt R c 1)) (S 6 0 + 1)) R := hR.keep enM_off
  have hE := hS.en (c := c) (y := nxt R S c) (p := S 1 c + tollP R c (3 * nxt R S c + pt R c 1)) (v := S 6 0 + 1) hc.1
  have hd : deepP R S c (3 * nxt R S c + pt R c 1) = iMin 99 (S 4 (3 * nxt R S c + pt R c 1) + moreP R c) := by
    unfold deepP iMin; split <;> split <;> omega
  have hm : 0 ≤ moreP R c ∧ moreP R c ≤ 18 := by
    unfold moreP; split
    · omega
    · split <;> omega
  have hdb : 0 ≤ deepP R S c (3 * nxt R S c + pt R c 1) ∧ deepP R S c (3 * nxt R S c + pt R c 1) ≤ 99 := by unfold deepP; split <;> omega
  have e93 : ∀ s : Int, s = moreP R c → run_enter_93 (nxt R S c) (pt R c 1) s (enM μ c (nxt R S c) (S 1 c + tollP R c (3 * nxt R S c + pt R c 1)) (S 6 0 + 1)) = some (sdM (enM μ c (nxt R S c) (S 1 c + tollP R c (3 * nxt R S c + pt R c 1)) (S 6 0 + 1)) (3 * nxt R S c + pt R c 1) (deepP R S c (3 * nxt R S c + pt R c 1))) := fun s hs => by
    have hdp := depthOf_eq (k := 3 * nxt R S c + pt R c 1) hE.1 hk
    rw [uq_ap, if_neg (by omega), uq_ap, if_neg (by omega), uq_ap, if_neg (by omega)] at hdp
    unfold run_enter_93
    rw [rut_eq (by omega), Option.bind_some, Option.bind_some, hdp, Option.bind_some, hs, wI_id (by omega), ← hd, setDepth_eq hk, Option.bind_some]
  have h39 : mset (mset μ 35 10 (S 6 0 + 1)) 38 c.toNat (nxt R S c) 39 c.toNat = S 1 c := by rw [mset_off (by omega), mset_off (by omega)]; exact (hS.1.1 c hc.1 hc.2).2.1
  have h10 := hS.1.2.2.2.2
  have hs6 := hV.2.2
  unfold run_enter bnd
  dsimp only
  rw [h10, wI_id (x := S 6 0 + 1) (by omega), put_in (by omega), Option.bind_some, at_in (by omega), Option.bind_some, h39, ctoll hR2 hO hc (by omega), Option.bind_some, wI_id (by omega), put_in (by omega), Option.bind_some]
  show ∃ μ', ((roa_part 1 (enM μ c (nxt R S c) (S 1 c + tollP R c (3 * nxt R S c + pt R c 1)) (S 6 0 + 1)) c 0).bind fun u6 => if u6 = 2 then some (enM μ c (nxt R S c) (S 1 c + tollP R c (3 * nxt R S c + pt R c 1)) (S 6 0 + 1)) else if u6 = 1 then ((roa_part 1 (enM μ c (nxt R S c) (S 1 c + tollP R c (3 * nxt R S c + pt R c 1)) (S 6 0 + 1)) c 2).bind fun u7 => run_enter_93 (nxt R S c) (pt R c 1) (wI (2 * u7)) (enM μ c (nxt R S c) (S 1 c + tollP R c (3 * nxt R S c + pt R c 1)) (S 6 0 + 1))) else ((roa_part 1 (enM μ c (nxt R S c) (S 1 c + tollP R c (3 * nxt R S c + pt R c 1)) (S 6 0 + 1)) c 2).bind fun u8 => run_enter_93 (nxt R S c) (pt R c 1) u8 (enM μ c (nxt R S c) (S 1 c + tollP R c (3 * nxt R S c + pt R c 1)) (S 6 0 + 1)))) = some μ' ∧ _
  rw [cpart hRe (by omega) (by omega), Option.bind_some, cpart hRe (by omega) (by omega), Option.bind_some, Option.bind_some]
  by_cases z1 : pt R c 0 = 2
  · rw [if_pos z1]
    refine ⟨_, rfl, enM_off, ?_⟩
    have hm0 : moreP R c = 0 := by unfold moreP; rw [if_pos z1]
    unfold inP1
    rw [uq_id (a := 4)]
    · exact hE
    · rw [uq_ap, if_neg (by omega), uq_ap, if_neg (by omega), uq_ap, if_neg (by omega)]
      unfold deepP
      rw [hm0, if_neg (by omega)]; omega
  · rw [if_neg z1]
    by_cases z2 : pt R c 0 = 1
    · rw [if_pos z2, wI_id (by omega), e93 _ (by unfold moreP; rw [if_neg z1, if_pos z2])]
      exact ⟨_, rfl, enM_off.tr sdM_off, hE.sd hk.1 hdb⟩
    · rw [if_neg z2, e93 _ (by unfold moreP; rw [if_neg z1, if_neg z2])]
      exact ⟨_, rfl, enM_off.tr sdM_off, hE.sd hk.1 hdb⟩
theorem entP_eq {R S : Rd} {h c : Int} : entP R S h c = uq (inP1 R S c) 3 c (if nxt R S c = pt R c 5 then h else -4) := by
  unfold entP inP1
  rw [uq_comm (a := 3) (a' := 6) (by omega)]
  congr 1
  rw [uq_comm (a := 1) (a' := 6) (by omega), uq_comm (a := 4) (a' := 6) (by omega), uq_comm (a := 0) (a' := 6) (by omega), uq_comm (a := 4) (a' := 1) (by omega)]
theorem moveIn_eq {μ : Mem} {R S : Rd} {h c t : Int} (hR : RCr μ R) (hO : Okr R) (hS : CM μ R S) (hV : RV R S t) (ht : t ≤ 100000) (hc : 0 ≤ c ∧ c < R 0 1) (hh : 1 ≤ h ∧ h ≤ 60) : ∃ μ', run_moveIn h c μ = some μ' ∧ Off Crun μ μ' ∧ CM μ' R (moveP R h c S) := by
  have hb := hO.1
  have hpc := hO.2.2.2.2.2.1 c hc.1 hc.2
  have hv := hV.1 c hc.1 hc.2
  have p0 := cpart (c := c) (k := 0) hR (by omega) (by omega)
  have p1 := cpart (c := c) (k := 1) hR (by omega) (by omega)
  have p5 := cpart (c := c) (k := 5) hR (by omega) (by omega)
  have p6 := cpart (c := c) (k := 6) hR (by omega) (by omega)
  have h38 : ww_at 38 5 μ c = some (S 0 c) := by rw [at_in (by omega), (hS.1.1 c hc.1 hc.2).1]
  have wt : run_moveIn_164 c μ = some (mset (mset μ 40 c.toNat (S 2 c + 1)) 35 12 (iOr (S 5 0) (iShl 1 c))) := by
    have h40 := (hS.1.1 c hc.1 hc.2).2.2.1
    have e1 : mset μ 40 c.toNat (S 2 c + 1) 35 12 = S 5 0 := by rw [mset_off (by omega)]; exact hS.2
    unfold run_moveIn_164 bnd
    dsimp only
    rw [at_in (by omega), Option.bind_some, h40, wI_id (by omega), put_in (by omega), Option.bind_some, e1]
  have wto : Off Crun μ (mset (mset μ 40 c.toNat (S 2 c + 1)) 35 12 (iOr (S 5 0) (iShl 1 c))) := (Off.rf.set (by unfold Crun; omega)).set (by unfold Crun; omega)
  have key : ∀ s : Int, (s = 1 ∧ pt R c 0 = 2 ∨ s = 0 ∧ pt R c 0 ≠ 2) → ∃ μ', run_moveIn_18 h c s μ = some μ' ∧ Off Crun μ μ' ∧ CM μ' R (moveP R h c S) := fun s hs => by
    unfold run_moveIn_18
    rw [isDone_eq hO hS.1 hV hc, Option.bind_some, p6]
    by_cases z1 : S 0 c = pt R c 5
    · have z1' : ¬ S 3 c = -4 := fun q => (hv.2.2.2.1.mp q) z1
      rw [if_neg z1', if_neg (by omega), move_no (fun z => z.1 z1)]; exact ⟨μ, rfl, Off.rf, hS⟩
    have z1' : S 3 c = -4 := hv.2.2.2.1.mpr z1
    rw [if_pos z1', if_pos rfl, Option.bind_some]
    by_cases z2 : h ≤ pt R c 6
    · rw [if_pos z2, move_no (fun z => by have := z.2.1; omega)]; exact ⟨μ, rfl, Off.rf, hS⟩
    rw [if_neg z2, iRem_eq (by omega) (by omega)]
    have go : actsP R S h c → ∃ μ', run_moveIn_52 h c μ = some μ' ∧ Off Crun μ μ' ∧ CM μ' R (moveP R h c S) := fun ha => by
      have hn := nxt_in hO hV hc z1
      have hk : 0 ≤ 3 * nxt R S c + pt R c 1 ∧ 3 * nxt R S c + pt R c 1 < 63 := by omega
      have en : roa_nextYard 1 μ c (S 0 c) = some (nxt R S c) := by
        unfold roa_nextYard nxt
        rw [p5, Option.bind_some]
        by_cases y : pt R c 5 ≤ S 0 c
        · rw [if_pos y, if_neg (by omega), wI_id (by omega)]
        · rw [if_neg y, if_pos (by omega), wI_id (by omega)]
      have ho := isOpen_eq (c := c) (y := nxt R S c) (d := S 4 (3 * nxt R S c + pt R c 1)) hR hO hc (by omega)
      have hT := isTaken_eq (c := c) (y := nxt R S c) hR hO hS.1 hV hc (by omega)
      unfold run_moveIn_52
      rw [h38, Option.bind_some, en, Option.bind_some, p1, Option.bind_some, rut_eq (by omega), Option.bind_some, depthOf_eq hS.1 hk, Option.bind_some]
      by_cases y1 : opensP R S c
      · rw [ho.1 y1, Option.bind_some, if_neg (by omega)]
        by_cases y2 : freeP R S c (nxt R S c)
        · rw [hT.1 y2, Option.bind_some, if_pos rfl]
          obtain ⟨μ1, e1, e2, e3⟩ := enter_eq hR hO hS hV ht hc (by omega)
          rw [e1, Option.bind_some, cpart (hR.keep e2) (by omega) (by omega), Option.bind_some, move_go ha ⟨y1, y2⟩, entP_eq]
          have h3 : inP1 R S c 3 c = -4 := by
            unfold inP1
            rw [uq_ap, if_neg (by omega), uq_ap, if_neg (by omega), uq_ap, if_neg (by omega), uq_ap, if_neg (by omega)]; exact z1'
          by_cases y3 : nxt R S c = pt R c 5
          · rw [if_pos y3, if_pos y3, put_in (by omega), Option.bind_some]
            unfold bnd
            dsimp only
            have hl := e3.1.2.2.2.1
            have hl2 := leftN_nn (inP1 R S c) (R 0 1).toNat
            rw [mset_off (a := 35) (by omega), wI_id (by omega)]
            exact ⟨_, rfl, e2.tr ((Off.rf.set (by unfold Crun; omega)).set (by unfold Crun; omega)), e3.dn hc h3 hh.1⟩
          · rw [if_neg y3, if_neg y3, uq_id h3]
            exact ⟨μ1, rfl, e2, e3⟩
        · rw [hT.2 y2, Option.bind_some, if_neg (by omega), wt, move_wait ha (fun z => y2 z.2)]
          exact ⟨_, rfl, wto, hS.wt hc.1⟩
      · rw [ho.2 y1, Option.bind_some, if_pos rfl, wt, move_wait ha (fun z => y1 z.1)]
        exact ⟨_, rfl, wto, hS.wt hc.1⟩
    rcases hs with ⟨s1, s2⟩ | ⟨s1, s2⟩
    · rw [if_neg (by omega)]
      by_cases z3 : h % 2 = 0
      · rw [if_pos z3]
        exact go ⟨z1, by omega, fun q => by omega⟩
      · rw [if_neg z3, move_no (fun z => z.2.2 ⟨s2, by omega⟩)]; exact ⟨μ, rfl, Off.rf, hS⟩
    · rw [if_pos s1]
      exact go ⟨z1, by omega, fun q => s2 q.1⟩
  unfold run_moveIn
  rw [p0, Option.bind_some]
  by_cases z : pt R c 0 = 2
  · rw [if_pos z]; exact key 1 (Or.inl ⟨rfl, z⟩)
  · rw [if_neg z]; exact key 0 (Or.inr ⟨rfl, z⟩)
