theorem wsOf_T {G : Nv} {Sh : Shp} {μ : Mem} : wsOf G Sh μ = wsT G 0 Sh μ := by
  unfold wsOf wsT
  congr 1
  funext k e
  rw [Nat.zero_add]
theorem seg_model {G : Nv} {h0 : Nat} {L : va_W} (h : qX9 G h0 L) : ∃ f : Nat → Nat, f 0 = h0 ∧ ∀ (q : Nat → Nat), (∀ k, k < 27 → q (61 + k) = f k) → L = wsT (G.1, q, G.2.2) 61 (sl 61 88) cMem := by
  obtain ⟨f, hf0, -, rfl⟩ := h
  refine ⟨f, hf0, fun q hq => ?_⟩
  have hμ : ∀ k, cMem (61 + k) = mMem k := fun k => by funext i; unfold cMem; rw [if_neg (by omega), if_neg (by omega), if_neg (by omega), if_neg (by omega), if_neg (by omega), if_neg (by omega), if_neg (by omega), if_pos (by omega), Nat.add_sub_cancel_left]
  have e0 : q 61 = f 0 := hq 0 (by omega)
  have e1 : q 62 = f 1 := hq 1 (by omega)
  have e2 : q 63 = f 2 := hq 2 (by omega)
  have e3 : q 64 = f 3 := hq 3 (by omega)
  have e4 : q 65 = f 4 := hq 4 (by omega)
  have e5 : q 66 = f 5 := hq 5 (by omega)
  have e6 : q 67 = f 6 := hq 6 (by omega)
  have e7 : q 68 = f 7 := hq 7 (by omega)
  have e8 : q 69 = f 8 := hq 8 (by omega)
  have e9 : q 70 = f 9 := hq 9 (by omega)
  have e10 : q 71 = f 10 := hq 10 (by omega)
  have e11 : q 72 = f 11 := hq 11 (by omega)
  have e12 : q 73 = f 12 := hq 12 (by omega)
  have e13 : q 74 = f 13 := hq 13 (by omega)
  have e14 : q 75 = f 14 := hq 14 (by omega)
  have e15 : q 76 = f 15 := hq 15 (by omega)
  have e16 : q 77 = f 16 := hq 16 (by omega)
  have e17 : q 78 = f 17 := hq 17 (by omega)
  have e18 : q 79 = f 18 := hq 18 (by omega)
  have e19 : q 80 = f 19 := hq 19 (by omega)
  have e20 : q 81 = f 20 := hq 20 (by omega)
  have e21 : q 82 = f 21 := hq 21 (by omega)
  have e22 : q 83 = f 22 := hq 22 (by omega)
  have e23 : q 84 = f 23 := hq 23 (by omega)
  have e24 : q 85 = f 24 := hq 24 (by omega)
  have e25 : q 86 = f 25 := hq 25 (by omega)
  have e26 : q 87 = f 26 := hq 26 (by omega)
  have m0 : cMem 61 = mMem 0 := hμ 0
  have m1 : cMem 62 = mMem 1 := hμ 1
  have m2 : cMem 63 = mMem 2 := hμ 2
  have m3 : cMem 64 = mMem 3 := hμ 3
  have m4 : cMem 65 = mMem 4 := hμ 4
  have m5 : cMem 66 = mMem 5 := hμ 5
  have m6 : cMem 67 = mMem 6 := hμ 6
  have m7 : cMem 68 = mMem 7 := hμ 7
  have m8 : cMem 69 = mMem 8 := hμ 8
  have m9 : cMem 70 = mMem 9 := hμ 9
  have m10 : cMem 71 = mMem 10 := hμ 10
  have m11 : cMem 72 = mMem 11 := hμ 11
  have m12 : cMem 73 = mMem 12 := hμ 12
  have m13 : cMem 74 = mMem 13 := hμ 13
  have m14 : cMem 75 = mMem 14 := hμ 14
  have m15 : cMem 76 = mMem 15 := hμ 15
  have m16 : cMem 77 = mMem 16 := hμ 16
  have m17 : cMem 78 = mMem 17 := hμ 17
  have m18 : cMem 79 = mMem 18 := hμ 18
  have m19 : cMem 80 = mMem 19 := hμ 19
  have m20 : cMem 81 = mMem 20 := hμ 20
  have m21 : cMem 82 = mMem 21 := hμ 21
  have m22 : cMem 83 = mMem 22 := hμ 22
  have m23 : cMem 84 = mMem 23 := hμ 23
  have m24 : cMem 85 = mMem 24 := hμ 24
  have m25 : cMem 86 = mMem 25 := hμ 25
  have m26 : cMem 87 = mMem 26 := hμ 26
  rw [wsOf_T]
  show wsT (G.1, f, G.2.2) 0 SM mMem = wsT (G.1, q, G.2.2) 61 ([(12, 0, [65, 66, 0, 67, 68, 69, 70, 71, 0, 72, 73, 74, 75, 76, 2, 0, 0, 77, 0, 0, 0, 0, 0, 0, 0, 78, 79, 80, 81, 82, 83, 0, 84, 85, 86, 87, 88, 89, 90, 0]), (0, 555, []), (2, 2, []), (2, 21, []), (0, 21, []), (0, 21, []), (0, 63, []), (0, 185, []), (2, 21, []), (0, 21, []), (0, 21, []), (0, 63, []), (2, 63, []), (0, 400, []), (0, 5, []), (0, 5, []), (0, 5, []), (0, 5, []), (0, 63, []), (0, 5, []), (0, 5, []), (0, 63, []), (0, 63, []), (2, 63, []), (0, 4, []), (0, 4, []), (0, 160, [])] : Shp) cMem
  unfold wsT SM
  simp only [List.mapIdx_cons, List.mapIdx_nil, Nat.reduceAdd]
  rw [e0, m0, e1, m1, e2, m2, e3, m3, e4, m4, e5, m5, e6, m6, e7, m7, e8, m8, e9, m9, e10, m10, e11, m11, e12, m12, e13, m13, e14, m14, e15, m15, e16, m16, e17, m17, e18, m18, e19, m19, e20, m20, e21, m21, e22, m22, e23, m23, e24, m24, e25, m25, e26, m26]
  refine congr (congrArg List.cons (congrArg (Prod.mk _) ?_)) rfl
  show Sum.inr (9, List.mapIdx (slotV (G.1, f, G.2.2) (mMem 0)) [4, 5, 0, 6, 7, 8, 9, 10, 0, 11, 12, 13, 14, 15, 2, 0, 0, 16, 0, 0, 0, 0, 0, 0, 0, 17, 18, 19, 20, 21, 22, 0, 23, 24, 25, 26, 27, 28, 29, 0]) = Sum.inr (9, List.mapIdx (slotV (G.1, q, G.2.2) (mMem 0)) [65, 66, 0, 67, 68, 69, 70, 71, 0, 72, 73, 74, 75, 76, 2, 0, 0, 77, 0, 0, 0, 0, 0, 0, 0, 78, 79, 80, 81, 82, 83, 0, 84, 85, 86, 87, 88, 89, 90, 0])
  simp only [List.mapIdx_cons, List.mapIdx_nil, slotV]
  rw [e1, e2, e3, e4, e5, e6, e7, e8, e9, e10, e11, e12, e13, e14, e15, e16, e17, e18, e19, e20, e21, e22, e23, e24, e25, e26]
theorem world88 {G : Nv} {h0 h1 : Nat} {L M : va_W} (h : qX8 G h0 L) (hm : qX9 G h1 M) : ∃ q : Nat → Nat, q 0 = h0 ∧ q 61 = h1 ∧ (∀ k, 90 ≤ k → q k = G.2.1 k) ∧ L ++ M = wsOf (G.1, q, G.2.2) S88 cMem := by
  obtain ⟨f, hf, r⟩ := fl8 h
  obtain ⟨g, hg, t⟩ := seg_model hm
  refine ⟨fun k => if k < 61 then f k else if k < 90 then g (k - 61) else G.2.1 k, hf, hg, fun k hk => ?_, ?_⟩
  · rw [if_neg (by omega), if_neg (by omega)]
  · rw [r _ (fun k hk => if_pos hk), t (fun k => if k < 61 then f k else if k < 90 then g (k - 61) else G.2.1 k) (fun k hk => by rw [if_neg (by omega), if_pos (by omega), Nat.add_sub_cancel_left]), wsOf_T, ← wsT_append (n := 61) rfl]
    rfl
