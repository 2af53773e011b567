def dpR (R S : Rd) : Rd := fun s k => if s = 5 then S 4 k else R s k
theorem dpR_n (R S : Rd) (s : Nat) (k : Int) (h : s ≠ 5) : dpR R S s k = R s k := by unfold dpR; rw [if_neg h]
theorem dpR_mv (R S : Rd) (c l y : Int) : mvR (dpR R S) c l y = dpR (mvR R c l y) S := by
  funext s i
  by_cases h6 : s = 6
  · subst h6
    rw [dpR_n _ _ _ _ (by omega)]
    unfold mvR
    rw [dpR_n _ _ _ _ (by omega), dpR_n _ _ _ _ (by omega)]
  · rw [mvR_n _ _ _ _ _ _ h6]
    by_cases h5 : s = 5
    · subst h5; rfl
    · rw [dpR_n _ _ _ _ h5, dpR_n _ _ _ _ h5, mvR_n _ _ _ _ _ _ h6]
theorem goR_dp (S : Rd) : ∀ (m c l : Nat) (R : Rd), goR S m c l (dpR R S) = (dpR (goR S m c l R).1 S, (goR S m c l R).2) := by
  intro m
  induction m with
  | zero => intro c l R; rfl
  | succ m ih =>
    intro c l R
    rw [goR, goR]
    by_cases z : S 3 (c : Int) = -4
    · rw [if_pos z, if_pos z, dpR_mv, ih]
    · rw [if_neg z, if_neg z, ih]
theorem CM0.rd {μ : Mem} {R S : Rd} {a i : Nat} {v : Int} (ha : a < 35) (H : CM0 μ R S) : CM0 (mset μ a i v) R S := by
  unfold CM0 at H ⊢
  rw [mset_off (show 35 ≠ a by omega), mset_off (show 38 ≠ a by omega), mset_off (show 39 ≠ a by omega), mset_off (show 40 ≠ a by omega), mset_off (show 41 ≠ a by omega), mset_off (show 42 ≠ a by omega), mset_off (show 43 ≠ a by omega)]
  exact H
theorem cgo16 {R S : Rd} : ∀ (f k : Nat) (μ : Mem), k ≤ 63 → 63 - k < f → CM0 μ R S → ∃ μ', ww_go_16 f (k : Int) μ = ww_go_51 BIG 0 0 μ' ∧ (∀ a, a ≠ 5 → μ' a = μ a) ∧ (∀ j, j < k → μ' 5 j = μ 5 j) ∧ ∀ j : Nat, k ≤ j → j < 63 → μ' 5 j = S 4 (j : Int) := by
  intro f
  induction f with
  | zero => intro k μ h1 h2; omega
  | succ f ih =>
    intro k μ h1 h2 hS
    rw [ww_go_16.eq_2]
    by_cases z : (63 : Int) ≤ k
    · rw [if_pos z]
      exact ⟨μ, rfl, fun a _ => rfl, fun j _ => rfl, fun j j1 j2 => by omega⟩
    · obtain ⟨μ', g1, g2, g3, g4⟩ := ih (k + 1) (mset μ 5 k (S 4 (k : Int))) (by omega) (by omega) (hS.rd (by omega))
      refine ⟨μ', ?_, fun a ha => by rw [g2 a ha, mset_off ha], fun j hj => by rw [g3 j (by omega), mset_ne (by omega)], fun j j1 j2 => ?_⟩
      · rw [if_neg z, depthOf_eq hS (by omega), Option.bind_some, put_in (by omega), Option.bind_some, wI_id (by omega), Int.toNat_natCast, show (k : Int) + 1 = ((k + 1 : Nat) : Int) by omega, g1]
      · by_cases y : j = k
        · rw [y, g3 k (by omega), mset_same]
        · exact g4 j (by omega) j2
theorem mgo143 {S : Rd} (x : Int) : ∀ (f k : Nat) (μ : Mem), k ≤ 63 → 63 - k < f → (∀ j : Nat, j < 63 → μ 79 j = S 4 (j : Int)) → ∃ μ', mod_go_143 f x (k : Int) μ = some (x, μ') ∧ (∀ a j, ¬ (a = 62 ∧ 36 + k ≤ j ∧ j < 99) → μ' a j = μ a j) ∧ ∀ j : Nat, k ≤ j → j < 63 → μ' 62 (36 + j) = S 4 (j : Int) := by
  intro f
  induction f with
  | zero => intro k μ h1 h2; omega
  | succ f ih =>
    intro k μ h1 h2 hS
    rw [mod_go_143.eq_2]
    by_cases z : (63 : Int) ≤ k
    · rw [if_pos z]
      exact ⟨μ, rfl, fun a j _ => rfl, fun j j1 j2 => by omega⟩
    · obtain ⟨μ', g1, g2, g3⟩ := ih (k + 1) (mset μ 62 (36 + k) (S 4 (k : Int))) (by omega) (by omega) (fun j hj => by rw [mset_off (by omega)]; exact hS j hj)
      refine ⟨μ', ?_, fun a j n => by rw [g2 a j (by omega), mset_ne (by omega)], fun j j1 j2 => ?_⟩
      · rw [if_neg z, ld_ok (by omega), Option.bind_some, Int.toNat_natCast, hS k (by omega), wI_id (x := 36 + (k : Int)) (by omega), stx_ok (by omega), Option.bind_some, wI_id (by omega), show (36 + (k : Int)).toNat = 36 + k by omega, show (k : Int) + 1 = ((k + 1 : Nat) : Int) by omega, g1]
      · by_cases y : j = k
        · rw [y, g2 _ _ (by omega), mset_same]
        · exact g3 j (by omega) j2
theorem RC.dp {μ μ' : Mem} {R S : Rd} (h : ∀ a, a ≠ 5 → μ' a = μ a) (h5 : ∀ j : Nat, j < 63 → μ' 5 j = S 4 (j : Int)) (H : RC μ 1 R) : RC μ' 1 (dpR R S) := by
  obtain ⟨⟨a1, a2, a3⟩, b, c', ⟨bb, b1, b2, b3⟩, e, f, g, h7, ⟨ff, f1, f2, f3⟩, h9⟩ := H
  have q : ∀ a, a ≠ 5 → μ' a = μ a := h
  refine ⟨⟨by rw [q _ (by omega), dpR_n _ _ _ _ (by omega)]; exact a1, by rw [q _ (by omega), dpR_n _ _ _ _ (by omega)]; exact a2, by rw [q _ (by omega), dpR_n _ _ _ _ (by omega)]; exact a3⟩,
    fun j h1 h2 => by rw [q _ (by omega), dpR_n _ _ _ _ (by omega)]; exact b j h1 h2,
    fun j h1 h2 => by rw [q _ (by omega), dpR_n _ _ _ _ (by omega)]; exact c' j h1 h2,
    ⟨bb, by rw [q _ (by omega)]; exact b1, b2, fun j hj => by rw [dpR_n _ _ _ _ (by omega)]; exact b3 j hj⟩,
    fun j h1 h2 => by rw [q _ (by omega), dpR_n _ _ _ _ (by omega)]; exact e j h1 h2,
    fun j h1 h2 => ?_,
    fun j h1 h2 => by
      rw [dpR_n _ _ _ _ (by omega)] at h2
      rw [q _ (by omega), dpR_n _ _ _ _ (by omega)]; exact g j h1 h2,
    fun j h1 h2 => by rw [q _ (by omega), dpR_n _ _ _ _ (by omega)]; exact h7 j h1 h2,
    ⟨ff, by rw [q _ (by omega)]; exact f1, f2, fun j hj => by rw [dpR_n _ _ _ _ (by omega)]; exact f3 j hj⟩,
    fun j h1 h2 => by
      rw [dpR_n _ _ _ _ (by omega)] at h2
      rw [q _ (by omega), dpR_n _ _ _ _ (by omega), dpR_n _ _ _ _ (by omega)]; exact h9 j h1 h2⟩
  have := h5 j.toNat (by omega)
  show μ' 5 j.toNat = _
  rw [this]
  unfold dpR
  rw [if_pos rfl, show ((j.toNat : Nat) : Int) = j by omega]
theorem MC.dp {μ μ' : Mem} {R S : Rd} (hn : 0 ≤ R 0 2 ∧ R 0 2 ≤ 8) (h : ∀ a j, ¬ (a = 62 ∧ 36 ≤ j ∧ j < 99) → μ' a j = μ a j) (h5 : ∀ j : Nat, j < 63 → μ' 62 (36 + j) = S 4 (j : Int)) (H : MC μ 0 R) : MC μ' 0 (dpR R S) := by
  obtain ⟨⟨a1, a2, a3⟩, b, c', d, e, f, g, h7, h8, h9⟩ := H
  refine ⟨⟨by rw [h _ _ (by omega), dpR_n _ _ _ _ (by omega)]; exact a1, by rw [h _ _ (by omega), dpR_n _ _ _ _ (by omega)]; exact a2, by rw [h _ _ (by omega), dpR_n _ _ _ _ (by omega)]; exact a3⟩,
    fun j h1 h2 => by rw [h _ _ (by omega), dpR_n _ _ _ _ (by omega)]; exact b j h1 h2,
    fun j h1 h2 => by rw [h _ _ (by omega), dpR_n _ _ _ _ (by omega)]; exact c' j h1 h2,
    fun j h1 h2 => by rw [h _ _ (by omega), dpR_n _ _ _ _ (by omega)]; exact d j h1 h2,
    fun j h1 h2 => by rw [h _ _ (by omega), dpR_n _ _ _ _ (by omega)]; exact e j h1 h2,
    fun j h1 h2 => ?_,
    fun j h1 h2 => by rw [h _ _ (by omega), dpR_n _ _ _ _ (by omega)]; exact g j h1 h2,
    fun j h1 h2 => by rw [h _ _ (by omega), dpR_n _ _ _ _ (by omega)]; exact h7 j h1 h2,
    fun j h1 h2 => by rw [h _ _ (by omega), dpR_n _ _ _ _ (by omega)]; exact h8 j h1 h2,
    fun j h1 h2 => by
      rw [dpR_n _ _ _ _ (by omega)] at h2
      rw [h _ _ (by omega), h _ _ (by omega), dpR_n _ _ _ _ (by omega), dpR_n _ _ _ _ (by omega)]; exact h9 j h1 h2⟩
  have := h5 j.toNat (by omega)
  rw [Nat.zero_add, this]
  unfold dpR
  rw [if_pos rfl, show ((j.toNat : Nat) : Int) = j by omega]
theorem RC.cnt {μ : Mem} {R : Rd} {l : Int} (hl : l ≤ R 0 1) (H : RC μ 1 R) : RC (mset μ 1 10 l) 1 (uq R 0 1 l) := by
  obtain ⟨⟨a1, a2, a3⟩, b, c', ⟨bb, b1, b2, b3⟩, e, f, g, h7, ⟨ff, f1, f2, f3⟩, h9⟩ := H
  have q : ∀ a j, ¬ (a = 1 ∧ j = 10) → mset μ 1 10 l a j = μ a j := fun a j n => mset_ne n
  have u : ∀ s k, ¬ (s = 0 ∧ k = 1) → uq R 0 1 l s k = R s k := fun s k n => by rw [uq_ap, if_neg n]
  have u1 : uq R 0 1 l 0 1 = l := by rw [uq_ap, if_pos ⟨rfl, rfl⟩]
  exact ⟨⟨by rw [q _ _ (by omega), u _ _ (by omega)]; exact a1, by rw [mset_same, u1], by rw [q _ _ (by omega), u _ _ (by omega)]; exact a3⟩,
    fun j h1 h2 => by rw [q _ _ (by omega), u _ _ (by omega)]; exact b j h1 h2,
    fun j h1 h2 => by rw [q _ _ (by omega), u _ _ (by omega)]; exact c' j h1 h2,
    ⟨bb, by rw [q _ _ (by omega)]; exact b1, b2, fun j hj => by rw [u _ _ (by omega)]; exact b3 j hj⟩,
    fun j h1 h2 => by rw [q _ _ (by omega), u _ _ (by omega)]; exact e j h1 h2,
    fun j h1 h2 => by rw [q _ _ (by omega), u _ _ (by omega)]; exact f j h1 h2,
    fun j h1 h2 => by
      rw [u1] at h2
      rw [q _ _ (by omega), u _ _ (by omega)]; exact g j h1 (by omega),
    fun j h1 h2 => by rw [q _ _ (by omega), u _ _ (by omega)]; exact h7 j h1 h2,
    ⟨ff, by rw [q _ _ (by omega)]; exact f1, f2, fun j hj => by rw [u _ _ (by omega)]; exact f3 j hj⟩,
    fun j h1 h2 => by
      rw [u _ _ (by omega)] at h2
      rw [q _ _ (by omega), u _ _ (by omega), u _ _ (by omega)]; exact h9 j h1 h2⟩
theorem MC.cnt {μ : Mem} {R : Rd} {l : Int} (H : MC μ 0 R) : MC (mset μ 62 0 l) 0 (uq R 0 1 l) := by
  obtain ⟨⟨a1, a2, a3⟩, b, c', d, e, f, g, h7, h8, h9⟩ := H
  have q : ∀ a j, ¬ (a = 62 ∧ j = 0) → mset μ 62 0 l a j = μ a j := fun a j n => mset_ne n
  have u : ∀ s k, ¬ (s = 0 ∧ k = 1) → uq R 0 1 l s k = R s k := fun s k n => by rw [uq_ap, if_neg n]
  have u1 : uq R 0 1 l 0 1 = l := by rw [uq_ap, if_pos ⟨rfl, rfl⟩]
  exact ⟨⟨by rw [q _ _ (by omega), u _ _ (by omega)]; exact a1, by rw [mset_same, u1], by rw [q _ _ (by omega), u _ _ (by omega)]; exact a3⟩,
    fun j h1 h2 => by rw [q _ _ (by omega), u _ _ (by omega)]; exact b j h1 h2,
    fun j h1 h2 => by rw [q _ _ (by omega), u _ _ (by omega)]; exact c' j h1 h2,
    fun j h1 h2 => by rw [q _ _ (by omega), u _ _ (by omega)]; exact d j h1 h2,
    fun j h1 h2 => by rw [q _ _ (by omega), u _ _ (by omega)]; exact e j h1 h2,
    fun j h1 h2 => by rw [q _ _ (by omega), u _ _ (by omega)]; exact f j h1 h2,
    fun j h1 h2 => by rw [q _ _ (by omega), u _ _ (by omega)]; exact g j h1 h2,
    fun j h1 h2 => by rw [q _ _ (by omega), u _ _ (by omega)]; exact h7 j h1 h2,
    fun j h1 h2 => by rw [q _ _ (by omega), u _ _ (by omega)]; exact h8 j h1 h2,
    fun j h1 h2 => by
      rw [u _ _ (by omega)] at h2
      rw [q _ _ (by omega), q _ _ (by omega), u _ _ (by omega), u _ _ (by omega)]; exact h9 j h1 h2⟩
theorem go_fin {R X S : Rd} {l : Int} {t : Int} (hO : Ok R) (hV : RV R S t) (hs : ∀ s i, s ≠ 6 → X s i = R s i) (hl : 0 ≤ l ∧ l ≤ R 0 1) (hp : ∀ i : Int, 0 ≤ i → i < l → partOk X i) : Ok (uq (dpR X S) 0 1 l) := by
  obtain ⟨a, b, c, d, e, f, g, h7, h8, h9⟩ := hO
  have u : ∀ s k, ¬ (s = 0 ∧ k = 1) → s ≠ 5 → s ≠ 6 → uq (dpR X S) 0 1 l s k = R s k := fun s k n n5 n6 => by rw [uq_ap, if_neg n, dpR_n _ _ _ _ n5, hs _ _ n6]
  have u1 : uq (dpR X S) 0 1 l 0 1 = l := by rw [uq_ap, if_pos ⟨rfl, rfl⟩]
  have u5 : ∀ k, uq (dpR X S) 0 1 l 5 k = S 4 k := fun k => by rw [uq_ap, if_neg (by omega)]; rfl
  have up : ∀ c k, pt (uq (dpR X S) 0 1 l) c k = pt X c k := fun c k => by unfold pt; rw [uq_ap, if_neg (by omega), dpR_n _ _ _ _ (by omega)]
  refine ⟨?_, fun j h1 h2 => by rw [u _ _ (by omega) (by omega) (by omega)]; exact b j h1 h2, fun j h1 h2 => by rw [u _ _ (by omega) (by omega) (by omega)]; exact c j h1 h2, fun j h1 h2 => by rw [u _ _ (by omega) (by omega) (by omega)]; exact d j h1 h2, fun j h1 h2 => by rw [u _ _ (by omega) (by omega) (by omega)]; exact e j h1 h2, fun j h1 h2 => by rw [u5]; exact hV.2.1 j h1 h2, fun j h1 h2 => ?_, fun j h1 h2 => by rw [u _ _ (by omega) (by omega) (by omega)]; exact h7 j h1 h2, fun j h1 h2 => by rw [u _ _ (by omega) (by omega) (by omega)]; exact h8 j h1 h2, fun j h1 h2 => ?_⟩
  · rw [u1, u _ _ (by omega) (by omega) (by omega), u _ _ (by omega) (by omega) (by omega)]; omega
  · rw [u1] at h2
    have := hp j h1 h2
    unfold partOk at this
    rw [hs 0 0 (by omega)] at this
    simp only [up]
    rw [u _ _ (by omega) (by omega) (by omega)]
    exact this
  · rw [u _ _ (by omega) (by omega) (by omega)] at h2
    rw [u _ _ (by omega) (by omega) (by omega), u _ _ (by omega) (by omega) (by omega), u _ _ (by omega) (by omega) (by omega)]; exact h9 j h1 h2
theorem E_go_ok : E_go Inv := by
  intro μ H h g1
  obtain ⟨hR, hM, hO, hT⟩ := H.R
  by_cases k1 : 0 ≤ h ∧ h ≤ 60
  · obtain ⟨h, rfl⟩ : ∃ n : Nat, h = (n : Int) := ⟨h.toNat, by omega⟩
    obtain ⟨R, hRe⟩ : ∃ R : Rd, R = mR μ 0 := ⟨_, rfl⟩
    rw [← hRe] at hR hM hO hT
    have hb := hO.r.1
    obtain ⟨n, hn⟩ : ∃ n : Nat, (n : Int) = R 0 1 := ⟨(R 0 1).toNat, by omega⟩
    obtain ⟨S, hSe⟩ : ∃ S : Rd, S = runP R idP h := ⟨_, rfl⟩
    have hV := RV.run (p := idP) hO.r (fun i i1 i2 => ⟨i1, i2⟩) h (by omega)
    rw [← hSe] at hV
    obtain ⟨μ1, a1, a2, a3⟩ := cRun_eq hR hO.r (h := h) (by omega)
    rw [← hSe] at a3
    have hR1 : RC μ1 1 R := hR.off (fun a h1 h2 => a2.cell (fun j => by unfold Crun2; omega))
    obtain ⟨μ2, b1, b2, b3, b4⟩ := cgo16 (R := R) (S := S) BIG 0 μ1 (by omega) (by have := BIG_gt; omega) a3.1
    have e0 : ((0 : Nat) : Int) = 0 := rfl
    rw [e0] at b1
    have hR2 : RC μ2 1 (dpR R S) := hR1.dp b2 (fun j hj => b4 j (by omega) hj)
    have hS3 : ∀ c : Int, 0 ≤ c → c < n → S 3 c = -4 ∨ 1 ≤ S 3 c := fun c c1 c2 => by
      have := (hV.1 c c1 (by omega)).2.2.2.2; omega
    obtain ⟨μ3, d1, d2, d3⟩ := cgo51 (S := S) (n := n) (by omega) hS3 n BIG 0 0 μ2 (dpR R S) (by have := BIG_gt; omega) (by omega) (by omega) (by rw [dpR_n _ _ _ _ (by omega)]; omega) hR2 (fun i i1 i2 => by
      rw [b2 41 (by omega), b2 38 (by omega)]
      have := a3.1.1 i i1 (by omega)
      exact ⟨this.2.2.2, this.1⟩)
    rw [e0] at d1
    obtain ⟨G, hG⟩ : ∃ G : Rd × Nat, G = goR S n 0 0 R := ⟨_, rfl⟩
    have hGd := goR_dp S n 0 0 R
    rw [← hG] at hGd
    rw [hGd] at d1 d2
    dsimp only at d1 d2
    obtain ⟨o1, o2, o3⟩ := goR_ok (R0 := R) (S := S) (n := n) hn hV (fun c c1 c2 => hO.2.2.2.2.2.2.1 c c1 (by omega)) n 0 0 R (by omega) (by omega) (fun _ _ _ => rfl) (fun _ _ _ _ _ _ => rfl) (fun i i1 i2 => by omega)
    rw [← hG] at o1 o2 o3
    -- the class's memory at the end
    obtain ⟨μ4, hμ4⟩ : ∃ μ4 : Mem, μ4 = pdM (mset μ3 1 10 (G.2 : Int)) := ⟨_, rfl⟩
    have hR4 : RC μ4 1 (uq (dpR G.1 S) 0 1 (G.2 : Int)) := by
      rw [hμ4]
      exact (RC.cnt (by rw [dpR_n _ _ _ _ (by omega), o1 _ _ (by omega)]; omega) d2).pd
    have q4 : ∀ a, a ≠ 46 → a ≠ 1 → a ≠ 5 → a ≠ 6 → μ4 a = μ1 a := fun a z1 z2 z3 z4 => by
      rw [hμ4, pd_off _ _ z1, mset_off z2, d3 a z4, b2 a z3]
    have hM1 : MC μ1 0 R := hM.off (a2 _ _ (by unfold Crun2; omega)) (fun a h1 h2 h3 => a2.cell (fun j => by unfold Crun2; omega))
    have hM4 : MC μ4 0 R := hM1.off (by rw [q4 _ (by omega) (by omega) (by omega) (by omega)]) (fun a h1 h2 h3 => q4 _ (by omega) (by omega) (by omega) (by omega))
    have hMr4 : MCr μ4 R := by
      have h1 : MCr μ R := by rw [hRe]; exact MCr_mR μ
      have h2 : MCr μ1 R := h1.off (a2 _ _ (by unfold Crun2; omega)) (fun j _ => a2 _ _ (by unfold Crun2; omega)) (a2.cell (by unfold Crun2; omega)) (a2.cell (by unfold Crun2; omega)) (a2.cell (by unfold Crun2; omega))
      exact h2.off (by rw [q4 _ (by omega) (by omega) (by omega) (by omega)]) (fun j _ => by rw [q4 _ (by omega) (by omega) (by omega) (by omega)]) (q4 _ (by omega) (by omega) (by omega) (by omega)) (q4 _ (by omega) (by omega) (by omega) (by omega)) (q4 _ (by omega) (by omega) (by omega) (by omega))
    obtain ⟨ν1, ν2, r1, r2, r3, r4, r5⟩ := mRun_eq (h := h) hMr4 hO.r (by omega)
    rw [← hSe] at r4
    have hM5 : MC ν2 0 R := hM4.off (r3 _ _ (by unfold Rrun2; omega)) (fun a h1 h2 h3 => r3.cell (fun j => by unfold Rrun2; omega))
    obtain ⟨ν3, s1, s2, s3⟩ := mgo22 (R0 := R) (S := S) (n := n) (by omega) hT (fun c c1 c2 => (hV.1 c c1 (by omega)).2.2.2.1) n BIG 0 0 ν2 R (by have := BIG_gt; omega) (by omega) (by omega) hn.symm rfl (fun _ _ _ => rfl) hM5 (fun i i1 i2 => (r4.1 i i1 (by omega)).1)
    rw [e0, ← hG] at s1
    rw [← hG] at s2
    obtain ⟨ν4, t1, t2, t3⟩ := mgo143 (S := S) (G.2 : Int) BIG 0 (mset ν3 62 0 (G.2 : Int)) (by omega) (by have := BIG_gt; omega) (fun j hj => by
      rw [mset_off (by omega), s3 _ _ (by omega)]
      have := r4.2 (j : Int) (by omega) (by omega)
      rw [Int.toNat_natCast] at this
      exact this)
    rw [e0] at t1
    have hM6 : MC ν4 0 (uq (dpR G.1 S) 0 1 (G.2 : Int)) := by
      have h1 := MC.cnt (l := (G.2 : Int)) s2
      have h2 := MC.dp (S := S) (μ' := ν4) (by rw [uq_ap, if_neg (by omega), o1 _ _ (by omega)]; exact hT) (fun a j n => t2 a j (by omega)) (fun j hj => t3 j (by omega) hj) h1
      have e : dpR (uq G.1 0 1 (G.2 : Int)) S = uq (dpR G.1 S) 0 1 (G.2 : Int) := by
        funext s k
        rw [uq_ap]
        unfold dpR
        by_cases z : s = 5
        · rw [if_pos z, if_neg (by omega), if_pos z]
        · rw [if_neg z, uq_ap, if_neg z]
      rw [← e]
      exact h2
    have hoff : Off Rdw μ ν4 := fun a j n => by
      have z46 : a ≠ 46 := fun z => n (by unfold Rdw; omega)
      have z8 : ¬ (1 ≤ a ∧ a ≤ 8) := fun z => n (by unfold Rdw; omega)
      have z62 : ¬ (a = 62 ∧ j < 185) := fun z => n (by unfold Rdw; omega)
      have zs : ¬ Scr a j := fun z => n (by unfold Rdw; exact Or.inl z)
      rw [t2 a j (by omega), mset_ne (by omega), s3 a j (by omega), r3 a j (fun z => zs (by unfold Rrun2 at z; unfold Scr; omega)), q4 a z46 (by omega) (by omega) (by omega), a2 a j (fun z => zs (by unfold Crun2 at z; unfold Scr; omega))]
    have low : ∀ a, 1 ≤ a → a ≤ 60 → ν4 a = μ4 a := fun a h1 h2 => funext fun j => by
      rw [t2 a j (by omega), mset_ne (by omega), s3 a j (by omega), r3 a j (by unfold Rrun2; omega)]
    refine ⟨(G.2 : Int), μ4, ν4, ?_, ?_, ?_⟩
    · unfold ww_go
      rw [isBehind_eq, tT k1, a1, Option.bind_some, b1, d1, hμ4]
    · unfold mod_go
      rw [mIsTime_eq, tT k1, r1, Option.bind_some, r2, Option.bind_some, s1, t1]
    · refine Inv.road hoff (hR4.off (fun a h1 h2 => low a (by omega) (by omega))) hM6 (go_fin hO hV o1 (by omega) o3) (Icache.dropped ?_ ?_) H
      · rw [low _ (by omega) (by omega), hμ4]; exact (pd_flags _).1
      · rw [low _ (by omega) (by omega), hμ4]; exact (pd_flags _).2
  · refine ⟨-1, μ, μ, ?_, ?_, H⟩
    · unfold ww_go; rw [isBehind_eq, tF k1]
    · unfold mod_go; rw [mIsTime_eq, tF k1]
