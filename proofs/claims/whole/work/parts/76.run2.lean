theorem MCr.set {ν : Mem} {R : Rd} {a i : Nat} {v : Int} (ha : a ≠ 61 ∧ a ≠ 62 ∧ a ≠ 64 ∧ a ≠ 65 ∧ a ≠ 67) (H : MCr ν R) : MCr (mset ν a i v) R :=
  H.off (by rw [mset_off (by omega)]) (fun j _ => by rw [mset_off (by omega)]) (by rw [mset_off (by omega)]) (by rw [mset_off (by omega)]) (by rw [mset_off (by omega)])
theorem move_no {R S : Rd} {h c : Int} (n : ¬ actsP R S h c) : moveP R h c S = S := by
  unfold moveP
  rw [if_neg (fun z => n z.1), if_neg n]
theorem move_wait {R S : Rd} {h c : Int} (a : actsP R S h c) (n : ¬ (opensP R S c ∧ freeP R S c (nxt R S c))) : moveP R h c S = waitP S c := by
  unfold moveP
  rw [if_neg (fun z => n z.2), if_pos a]
theorem move_go {R S : Rd} {h c : Int} (a : actsP R S h c) (n : opensP R S c ∧ freeP R S c (nxt R S c)) : moveP R h c S = entP R S h c := by
  unfold moveP
  rw [if_pos ⟨a, n⟩]
def goM (ν : Mem) (c y k d p x : Int) : Mem := mset (mset (mset (mset ν 75 c.toNat y) 79 k.toNat d) 76 c.toNat p) 78 c.toNat x
theorem g286 {ν : Mem} {R : Rd} {c h y k p v : Int} (hM : MCr ν R) (hc : 0 ≤ c ∧ c < 5) (hp : -100000000 ≤ p ∧ p ≤ 100000000 ∧ -100 ≤ v ∧ v ≤ 100) : mod_goesCart_286 c h y c p v ν = some (mset (mset ν 76 c.toNat (p + v)) 78 c.toNat (if y = pt R c 5 then h else -4)) := by
  have hM' : MCr (mset ν 76 c.toNat (p + v)) R := hM.set (by omega)
  unfold mod_goesCart_286 mod_goesCart_310
  rw [stx_ok (by omega), Option.bind_some, wI_id (by omega), mof (k := 5) hM' hc (by omega), Option.bind_some, stx_ok (by omega), stx_ok (by omega), Option.bind_some, Option.bind_some]
  split <;> rfl
theorem g257 {ν : Mem} {R : Rd} {c h y k d p : Int} (hM : MCr ν R) (hO : Okr R) (hc : 0 ≤ c ∧ c < 5) (hk : 0 ≤ k ∧ k < 63) (hp : ν 76 c.toNat = p) (hp' : 0 ≤ p ∧ p ≤ 1000000) : mod_goesCart_257 c h y k k d ν = some (mset (mset (mset ν 79 k.toNat d) 76 c.toNat (p + tollP R c k)) 78 c.toNat (if y = pt R c 5 then h else -4)) := by
  have hM' : MCr (mset ν 79 k.toNat d) R := hM.set (by omega)
  have ht := hO.2.2.2.1 k hk.1 hk.2
  have e67 : (mset ν 79 k.toNat d) 67 k.toNat = R 4 k := by rw [mset_off (by omega)]; exact hM.2.2.2.1 k hk.1 hk.2
  unfold mod_goesCart_257
  rw [stx_ok (by omega), Option.bind_some, ld_ok (by omega), Option.bind_some, mof (k := 0) hM' hc (by omega), Option.bind_some, mset_off (a := 76) (by omega), hp, ld_ok (by omega), Option.bind_some, e67]
  unfold tollP
  by_cases z : pt R c 0 = 4
  · rw [if_pos z, if_pos z, g286 (k := k) hM' hc (by omega)]
  · rw [if_neg z, if_neg z, g286 (k := k) hM' hc (by omega)]
theorem g219 {ν : Mem} {R S : Rd} {c h y k : Int} (hM : MCr ν R) (hO : Okr R) (hc : 0 ≤ c ∧ c < R 0 1) (hk : 0 ≤ k ∧ k < 63) (hp : ν 76 c.toNat = S 1 c) (hp' : 0 ≤ S 1 c ∧ S 1 c ≤ 1000000) (hd : ν 79 k.toNat = S 4 k) (hd' : 0 ≤ S 4 k ∧ S 4 k ≤ 99) : mod_goesCart_219 c h y k (moreP R c) ν = some (mset (mset (mset ν 79 k.toNat (deepP R S c k)) 76 c.toNat (S 1 c + tollP R c k)) 78 c.toNat (if y = pt R c 5 then h else -4)) := by
  have hb := hO.1
  have hpc := hO.2.2.2.2.2.1 c hc.1 hc.2
  have hm : 0 ≤ moreP R c ∧ moreP R c ≤ 18 := by
    unfold moreP; split
    · omega
    · split <;> omega
  unfold mod_goesCart_219
  rw [ld_ok (by omega), Option.bind_some, hd, wI_id (by omega), Option.bind_some, g257 hM hO (by omega) hk hp hp', g257 hM hO (by omega) hk hp hp']
  unfold deepP
  by_cases z : S 4 k + moreP R c ≤ 99
  · rw [if_pos z, if_neg (show ¬ 99 < S 4 k + moreP R c by omega), wI_id (by omega)]
  · rw [if_neg z, if_pos (show 99 < S 4 k + moreP R c by omega)]
theorem g136_go {ν : Mem} {R S : Rd} {c h y k s : Int} {t : Int} (hM : MCr ν R) (hO : Okr R) (hS : RM ν R S) (hV : RV R S t) (ht : t ≤ 100000) (hc : 0 ≤ c ∧ c < R 0 1) (hy : 0 ≤ y ∧ y < 21) (hk : 0 ≤ k ∧ k < 63) (hs : s = 1 ∧ pt R c 0 = 2 ∨ s = 0 ∧ pt R c 0 ≠ 2) (hf : freeP R S c y) : mod_goesCart_136 c h s y k 1 ν = some (goM ν c y k (deepP R S c k) (S 1 c + tollP R c k) (if y = pt R c 5 then h else -4)) := by
  have hb := hO.1
  have hpc := hO.2.2.2.2.2.1 c hc.1 hc.2
  have hM' : MCr (mset ν 75 c.toNat y) R := hM.set (by omega)
  have hv := hV.1 c hc.1 hc.2
  have G := g219 (h := h) (y := y) (S := S) hM' hO hc hk (by rw [mset_off (by omega)]; exact (hS.1 c hc.1 hc.2).2.1) (by omega) (by rw [mset_off (by omega)]; exact hS.2.1 k hk.1 hk.2) (hV.2.1 k hk.1 hk.2)
  unfold mod_goesCart_136
  rw [if_neg (by omega), (isFree_eq hM hO hS hc hy).1 hf, Option.bind_some, if_neg (by omega), stx_ok (by omega), Option.bind_some, mof (k := 0) hM' (by omega) (by omega), Option.bind_some, mof (k := 2) hM' (by omega) (by omega), Option.bind_some, Option.bind_some]
  unfold moreP at G
  rcases hs with ⟨s1, s2⟩ | ⟨s1, s2⟩
  · rw [if_pos s2] at G
    rw [if_neg (by omega), G]; rfl
  · rw [if_neg s2] at G
    rw [if_pos s1]
    by_cases z : pt R c 0 = 1
    · rw [if_pos z] at G
      rw [if_pos z, wI_id (by omega), G]; rfl
    · rw [if_neg z] at G
      rw [if_neg z, G]; rfl
def waM (ν : Mem) (c v w : Int) : Mem := mset (mset ν 77 c.toNat v) 61 31 w
theorem g153 {ν : Mem} {R S : Rd} {c : Int} {t : Int} (hO : Okr R) (hS : RM ν R S) (hV : RV R S t) (ht : t ≤ 100000) (hc : 0 ≤ c ∧ c < R 0 1) : mod_goesCart_153 c ν = some (waM ν c (S 2 c + 1) (iOr (S 5 0) (iShl 1 c))) := by
  have hb := hO.1
  have hv := hV.1 c hc.1 hc.2
  have h77 := (hS.1 c hc.1 hc.2).2.2.1
  have e1 : mset ν 77 c.toNat (S 2 c + 1) 61 31 = S 5 0 := by rw [mset_off (by omega)]; exact hS.2.2
  unfold mod_goesCart_153 bnd
  rw [ld_ok (by omega), Option.bind_some, h77, wI_id (by omega), stx_ok (by omega), Option.bind_some, e1]; rfl
theorem RM.go {ν : Mem} {R S : Rd} {h c : Int} (hO : Okr R) (hS : RM ν R S) (hc : 0 ≤ c ∧ c < R 0 1) (hk : 0 ≤ 3 * nxt R S c + pt R c 1) : RM (goM ν c (nxt R S c) (3 * nxt R S c + pt R c 1) (deepP R S c (3 * nxt R S c + pt R c 1)) (S 1 c + tollP R c (3 * nxt R S c + pt R c 1)) (if nxt R S c = pt R c 5 then h else -4)) R (entP R S h c) := by
  unfold goM entP
  generalize nxt R S c = y at *
  refine ⟨fun d d1 d2 => ?_, fun k k1 k2 => ?_, ?_⟩
  · obtain ⟨a1, a2, a3, a4⟩ := hS.1 d d1 d2
    refine ⟨?_, ?_, ?_, ?_⟩
    · rw [mset_off (by omega), mset_off (by omega), mset_off (by omega), mset_ap, uq_ap, if_neg (show ¬ ((0 : Nat) = 6 ∧ d = 0) by omega), uq_ap, if_neg (show ¬ ((0 : Nat) = 3 ∧ d = c) by omega), uq_ap, if_neg (show ¬ ((0 : Nat) = 1 ∧ d = c) by omega), uq_ap, if_neg (show ¬ ((0 : Nat) = 4 ∧ d = 3 * y + pt R c 1) by omega), uq_ap]
      by_cases z : d = c
      · rw [if_pos ⟨rfl, by rw [z]⟩, if_pos ⟨rfl, z⟩]
      · rw [if_neg (by omega), if_neg (by omega)]; exact a1
    · rw [mset_off (by omega), mset_ap, uq_ap, if_neg (show ¬ ((1 : Nat) = 6 ∧ d = 0) by omega), uq_ap, if_neg (show ¬ ((1 : Nat) = 3 ∧ d = c) by omega), uq_ap]
      by_cases z : d = c
      · rw [if_pos ⟨rfl, by rw [z]⟩, if_pos ⟨rfl, z⟩]
      · rw [if_neg (by omega), if_neg (by omega), mset_off (by omega), mset_off (by omega), uq_ap, if_neg (by omega), uq_ap, if_neg (by omega)]; exact a2
    · rw [mset_off (by omega), mset_off (by omega), mset_off (by omega), mset_off (by omega), uq_ap, if_neg (by omega), uq_ap, if_neg (by omega), uq_ap, if_neg (by omega), uq_ap, if_neg (by omega), uq_ap, if_neg (by omega)]; exact a3
    · rw [mset_ap, uq_ap, if_neg (show ¬ ((3 : Nat) = 6 ∧ d = 0) by omega), uq_ap]
      by_cases z : d = c
      · rw [if_pos (show (78 : Nat) = 78 ∧ d.toNat = c.toNat from ⟨rfl, by rw [z]⟩), if_pos (show (3 : Nat) = 3 ∧ d = c from ⟨rfl, z⟩)]
      · rw [if_neg (by omega), if_neg (by omega), mset_off (by omega), mset_off (by omega), mset_off (by omega), uq_ap, if_neg (by omega), uq_ap, if_neg (by omega), uq_ap, if_neg (by omega)]; exact a4
  · rw [mset_off (by omega), mset_off (by omega), mset_ap, uq_ap, if_neg (show ¬ ((4 : Nat) = 6 ∧ k = 0) by omega), uq_ap, if_neg (show ¬ ((4 : Nat) = 3 ∧ k = c) by omega), uq_ap, if_neg (show ¬ ((4 : Nat) = 1 ∧ k = c) by omega), uq_ap]
    by_cases z : k = 3 * y + pt R c 1
    · rw [if_pos ⟨rfl, by rw [z]⟩, if_pos ⟨rfl, z⟩]
    · rw [if_neg (by omega), if_neg (by omega), mset_off (by omega), uq_ap, if_neg (by omega)]; exact hS.2.1 k k1 k2
  · rw [mset_off (by omega), mset_off (by omega), mset_off (by omega), mset_off (by omega), uq_ap, if_neg (by omega), uq_ap, if_neg (by omega), uq_ap, if_neg (by omega), uq_ap, if_neg (by omega), uq_ap, if_neg (by omega)]; exact hS.2.2
theorem RM.wait {ν : Mem} {R S : Rd} {c : Int} (hS : RM ν R S) (hc : 0 ≤ c) : RM (waM ν c (S 2 c + 1) (iOr (S 5 0) (iShl 1 c))) R (waitP S c) := by
  unfold waM waitP
  refine ⟨fun d d1 d2 => ?_, fun k k1 k2 => ?_, ?_⟩
  · obtain ⟨a1, a2, a3, a4⟩ := hS.1 d d1 d2
    refine ⟨?_, ?_, ?_, ?_⟩
    · rw [mset_off (by omega), mset_off (by omega), uq_ap, if_neg (by omega), uq_ap, if_neg (by omega)]; exact a1
    · rw [mset_off (by omega), mset_off (by omega), uq_ap, if_neg (by omega), uq_ap, if_neg (by omega)]; exact a2
    · rw [mset_off (by omega), mset_ap, uq_ap, if_neg (show ¬ ((2 : Nat) = 5 ∧ d = 0) by omega), uq_ap]
      by_cases z : d = c
      · rw [if_pos ⟨rfl, by rw [z]⟩, if_pos ⟨rfl, z⟩]
      · rw [if_neg (by omega), if_neg (by omega)]; exact a3
    · rw [mset_off (by omega), mset_off (by omega), uq_ap, if_neg (by omega), uq_ap, if_neg (by omega)]; exact a4
  · rw [mset_off (by omega), mset_off (by omega), uq_ap, if_neg (by omega), uq_ap, if_neg (by omega)]; exact hS.2.1 k k1 k2
  · rw [mset_same, uq_ap, if_pos ⟨rfl, rfl⟩]
theorem goM_off {ν : Mem} {c y k d p x : Int} : Off Rrun ν (goM ν c y k d p x) := (((Off.rf.set (by unfold Rrun; omega)).set (by unfold Rrun; omega)).set (by unfold Rrun; omega)).set (by unfold Rrun; omega)
theorem waM_off {ν : Mem} {c v w : Int} : Off Rrun ν (waM ν c v w) := (Off.rf.set (by unfold Rrun; omega)).set (by unfold Rrun; omega)
theorem goes_eq {ν : Mem} {R S : Rd} {h c t : Int} (hM : MCr ν R) (hO : Okr R) (hS : RM ν R S) (hV : RV R S t) (ht : t ≤ 100000) (hc : 0 ≤ c ∧ c < R 0 1) (hh : 1 ≤ h ∧ h ≤ 60) : ∃ ν', mod_goesCart c h ν = some ν' ∧ Off Rrun ν ν' ∧ RM ν' R (moveP R h c S) := by
  have hb := hO.1
  have hpc := hO.2.2.2.2.2.1 c hc.1 hc.2
  have hv := hV.1 c hc.1 hc.2
  have e75 : ld ν 75 5 c = some (S 0 c) := by rw [ld_ok (by omega), (hS.1 c hc.1 hc.2).1]
  have p0 := mof (c := c) (k := 0) hM (by omega) (by omega)
  have p1 := mof (c := c) (k := 1) hM (by omega) (by omega)
  have p3 := mof (c := c) (k := 3) hM (by omega) (by omega)
  have p5 := mof (c := c) (k := 5) hM (by omega) (by omega)
  have p6 := mof (c := c) (k := 6) hM (by omega) (by omega)
  have key : ∀ s : Int, (s = 1 ∧ pt R c 0 = 2 ∨ s = 0 ∧ pt R c 0 ≠ 2) → ∃ ν', mod_goesCart_15 c h s ν = some ν' ∧ Off Rrun ν ν' ∧ RM ν' R (moveP R h c S) := fun s hs => by
    unfold mod_goesCart_15
    rw [e75, p5, p6]
    simp only [Option.bind_some]
    by_cases z1 : S 0 c = pt R c 5
    · rw [if_pos z1, move_no (fun z => z.1 z1)]; exact ⟨ν, rfl, Off.rf, hS⟩
    rw [if_neg z1]
    by_cases z2 : h ≤ pt R c 6
    · rw [if_pos z2, move_no (fun z => by have := z.2.1; omega)]; exact ⟨ν, rfl, Off.rf, hS⟩
    rw [if_neg z2, iRem_eq (by omega) (by omega)]
    have go : actsP R S h c → ∃ ν', mod_goesCart_54 c h s ν = some ν' ∧ Off Rrun ν ν' ∧ RM ν' R (moveP R h c S) := fun ha => by
      have hn := nxt_in hO hV hc z1
      have hk : 0 ≤ 3 * nxt R S c + pt R c 1 ∧ 3 * nxt R S c + pt R c 1 < 63 := by omega
      have e54 : mod_goesCart_54 c h s ν = mod_goesCart_80 c h s (S 0 c) (nxt R S c - S 0 c) ν := by
        unfold mod_goesCart_54 nxt
        rw [e75, p5]
        simp only [Option.bind_some]
        by_cases y : pt R c 5 ≤ S 0 c
        · rw [if_pos y, if_neg (by omega), show S 0 c - 1 - S 0 c = -1 by omega]
        · rw [if_neg y, if_pos (by omega), show S 0 c + 1 - S 0 c = 1 by omega]
      have e79 : ld ν 79 63 (3 * nxt R S c + pt R c 1) = some (S 4 (3 * nxt R S c + pt R c 1)) := by rw [ld_ok (by omega), hS.2.1 _ hk.1 hk.2]
      have e80 : (opensP R S c → mod_goesCart_80 c h s (S 0 c) (nxt R S c - S 0 c) ν = mod_goesCart_136 c h s (nxt R S c) (3 * nxt R S c + pt R c 1) 1 ν) ∧ (¬ opensP R S c → mod_goesCart_80 c h s (S 0 c) (nxt R S c - S 0 c) ν = mod_goesCart_136 c h s (nxt R S c) (3 * nxt R S c + pt R c 1) 0 ν) := by
        unfold mod_goesCart_80 bnd
        dsimp only
        rw [wI_id (x := S 0 c + (nxt R S c - S 0 c)) (by omega), show S 0 c + (nxt R S c - S 0 c) = nxt R S c by omega, p1, Option.bind_some, wI_id (x := 3 * nxt R S c) (by omega), wI_id (by omega), Option.bind_some, mHasRut_eq (by omega), hM.2.1 _ (by omega) (by omega), e79, p3]
        unfold opensP hasRutP
        rcases hs with ⟨s1, s2⟩ | ⟨s1, s2⟩
        · rw [if_neg (by omega)]
          exact ⟨fun _ => rfl, fun n => absurd (Or.inl s2) n⟩
        · rw [if_pos s1]
          by_cases y1 : R 1 (nxt R S c) = -4 ∨ R 1 (nxt R S c) = pt R c 1
          · rw [tT y1, Option.bind_some, Option.bind_some]
            by_cases y2 : pt R c 3 < S 4 (3 * nxt R S c + pt R c 1)
            · rw [if_pos y2]
              exact ⟨fun q => by rcases q with q | q; exact absurd q s2; omega, fun _ => rfl⟩
            · rw [if_neg y2]
              exact ⟨fun _ => rfl, fun n => absurd (Or.inr ⟨y1, by omega⟩) n⟩
          · rw [tF y1]
            exact ⟨fun q => by rcases q with q | q; exact absurd q s2; exact absurd q.1 y1, fun _ => rfl⟩
      rw [e54]
      by_cases y1 : opensP R S c
      · rw [e80.1 y1]
        by_cases y2 : freeP R S c (nxt R S c)
        · rw [g136_go hM hO hS hV ht hc (by omega) hk hs y2, move_go ha ⟨y1, y2⟩]
          exact ⟨_, rfl, goM_off, RM.go hO hS hc hk.1⟩
        · have : mod_goesCart_136 c h s (nxt R S c) (3 * nxt R S c + pt R c 1) 1 ν = mod_goesCart_153 c ν := by
            unfold mod_goesCart_136
            rw [if_neg (by omega), (isFree_eq hM hO hS hc (by omega)).2 y2, Option.bind_some, if_pos rfl]
          rw [this, g153 hO hS hV ht hc, move_wait ha (fun z => y2 z.2)]
          exact ⟨_, rfl, waM_off, RM.wait hS hc.1⟩
      · have : mod_goesCart_136 c h s (nxt R S c) (3 * nxt R S c + pt R c 1) 0 ν = mod_goesCart_153 c ν := by
          unfold mod_goesCart_136
          rw [if_pos rfl]
        rw [e80.2 y1, this, g153 hO hS hV ht hc, move_wait ha (fun z => y1 z.1)]
        exact ⟨_, rfl, waM_off, RM.wait hS hc.1⟩
    rcases hs with ⟨s1, s2⟩ | ⟨s1, s2⟩
    · rw [if_neg (by omega)]
      by_cases z3 : h % 2 = 1
      · rw [if_pos z3, move_no (fun z => z.2.2 ⟨s2, z3⟩)]; exact ⟨ν, rfl, Off.rf, hS⟩
      · rw [if_neg z3]
        exact go ⟨z1, by omega, fun q => z3 q.2⟩
    · rw [if_pos s1]
      exact go ⟨z1, by omega, fun q => s2 q.1⟩
  unfold mod_goesCart
  rw [p0, Option.bind_some]
  by_cases z : pt R c 0 = 2
  · rw [if_pos z]; exact key 1 (Or.inl ⟨rfl, z⟩)
  · rw [if_neg z]; exact key 0 (Or.inr ⟨rfl, z⟩)
