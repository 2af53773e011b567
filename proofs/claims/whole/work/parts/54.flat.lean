def shr (o : Nat) : Shp := [(7, 0, [o + 1 + 3, o + 2 + 3, o + 3 + 3, o + 4 + 3, o + 5 + 3, o + 6 + 3, o + 7 + 3, 0, 1, 0, 0, 0]), (0, 21, []), (0, 21, []), (0, 63, []), (0, 63, []), (0, 35, []), (0, 8, []), (0, 8, [])]
def shOrd (o : Nat) : Shp := [(4, 0, [o + 1 + 3, 0]), (0, 5, [])]
theorem wsT_append {G : Nv} {o n : Nat} {A B : Shp} {μ : Mem} (hn : o + A.length = n) : wsT G o (A ++ B) μ = wsT G o A μ ++ wsT G n B μ := by
  subst hn
  simp [wsT, List.mapIdx_append]
  congr 1
  funext k e
  rw [show o + (k + A.length) = o + A.length + k by omega]
theorem wsT_cons' {G : Nv} {o n : Nat} {Sh : Shp} {μ : Mem} {e : She} {x : Nat × va_E} {L : va_W} (hn : o + 1 = n) (h : L = wsT G n Sh μ) (hx : x = (G.2.1 o, cellE G e (μ o))) : x :: L = wsT G o (e :: Sh) μ := by
  subst h; subst hx; subst hn
  simp only [wsT, List.mapIdx_cons, Nat.add_zero]
  refine congrArg (List.cons _) ?_
  congr 1
  funext k e
  rw [show o + 1 + k = o + (k + 1) by omega]
theorem seg_road {G : Nv} {h0 : Nat} {L : va_W} (h : qX4 G h0 L) (o : Nat) : ∃ f : Nat → Nat, f 0 = h0 ∧ ∀ (q : Nat → Nat) (μ : Mem), (∀ k, k < 8 → q (o + k) = f k) → (∀ k, k < 8 → μ (o + k) = rMem k) → L = wsT (G.1, q, G.2.2) o (shr o) μ := by
  obtain ⟨f, hf0, -, rfl⟩ := h
  refine ⟨f, hf0, fun q μ hq hμ => ?_⟩
  unfold wsOf wsT SRs shr
  simp only [List.mapIdx_cons, List.mapIdx_nil, Nat.add_zero, Nat.zero_add, Nat.reduceAdd]
  have e0 := hq 0 (by omega); have e1 := hq 1 (by omega); have e2 := hq 2 (by omega); have e3 := hq 3 (by omega)
  have e4 := hq 4 (by omega); have e5 := hq 5 (by omega); have e6 := hq 6 (by omega); have e7 := hq 7 (by omega)
  have m0 := hμ 0 (by omega); have m1 := hμ 1 (by omega); have m2 := hμ 2 (by omega); have m3 := hμ 3 (by omega)
  have m4 := hμ 4 (by omega); have m5 := hμ 5 (by omega); have m6 := hμ 6 (by omega); have m7 := hμ 7 (by omega)
  rw [Nat.add_zero] at e0 m0
  rw [e0, e1, e2, e3, e4, e5, e6, e7, m0, m1, m2, m3, m4, m5, m6, m7]
  refine congr (congrArg List.cons (congrArg (Prod.mk _) ?_)) rfl
  show Sum.inr (4, List.mapIdx (slotV (G.1, f, G.2.2) (rMem 0)) _) = Sum.inr (4, List.mapIdx (slotV (G.1, q, G.2.2) (rMem 0)) _)
  simp only [List.mapIdx_cons, List.mapIdx_nil, slotV]
  rw [e1, e2, e3, e4, e5, e6, e7]
theorem seg_ord {G : Nv} {h0 : Nat} {L : va_W} (h : qX1 G h0 L) (o : Nat) : ∃ f : Nat → Nat, f 0 = h0 ∧ ∀ (q : Nat → Nat) (μ : Mem), (∀ k, k < 2 → q (o + k) = f k) → (∀ k, k < 2 → μ (o + k) = fun _ => 0) → L = wsT (G.1, q, G.2.2) o (shOrd o) μ := by
  obtain ⟨q1, rfl⟩ := h
  refine ⟨fun k => if k = 0 then h0 else q1, rfl, fun q μ hq hμ => ?_⟩
  have e0 := hq 0 (by omega); have e1 := hq 1 (by omega)
  have m0 := hμ 0 (by omega); have m1 := hμ 1 (by omega)
  simp at e0 e1
  rw [Nat.add_zero] at m0
  unfold wsT shOrd
  simp only [List.mapIdx_cons, List.mapIdx_nil, Nat.add_zero, Nat.zero_add, e0, e1, m0, m1, cellE, slotV]
  rfl
/-- contents of the cells at the start -/
def cMem : Mem := fun k i =>
  if 1 ≤ k ∧ k < 9 then rMem (k - 1) i else if 9 ≤ k ∧ k < 17 then rMem (k - 9) i else if 17 ≤ k ∧ k < 25 then rMem (k - 17) i else if 27 ≤ k ∧ k < 35 then rMem (k - 27) i
  else if k = 46 ∧ 6 ≤ i ∧ i < 10 then -4 else if k = 51 ∧ i = 3 then 1 else if k = 60 then lan i else if 61 ≤ k then mMem (k - 61) i else 0
def sl (a b : Nat) : Shp := (S88.drop a).take (b - a)
theorem lanes_eq' : (fun i => Int32.ofInt (lan i)) = (upd (upd (upd (upd (fun _ => 0) 0 (-4)) 1 (-4)) 2 (-4)) 3 (-4)) := lanes_eq.symm
theorem fl8 {G : Nv} {h0 : Nat} {ws : va_W} (h : qX8 G h0 ws) : ∃ f : Nat → Nat, f 0 = h0 ∧ ∀ q : Nat → Nat, (∀ k, k < 61 → q k = f k) → ws = wsT (G.1, q, G.2.2) 0 (sl 0 61) cMem := by
  obtain ⟨q1, L1, q2, L2, q3, L3, q4, L4, q5, L5, q6, L6, q7, L7, q8, L8, q9, L9, q10, L10, h1, h2, h3, h4, h5, h6, h7, h8, h9, h10, rfl⟩ := h
  obtain ⟨f1, g1, r1⟩ := seg_road h1 1
  obtain ⟨f2, g2, r2⟩ := seg_road h2 9
  obtain ⟨f3, g3, r3⟩ := seg_road h3 17
  obtain ⟨a1, a2, M2, k2, rfl⟩ := h4
  obtain ⟨f4, g4, r4⟩ := seg_road k2 27
  obtain ⟨b1, N1, b2, b3, b4, b5, b6, b7, k5, rfl⟩ := h5
  obtain ⟨f5, g5, r5⟩ := seg_ord k5 36
  obtain ⟨f6, g6, r6⟩ := seg_ord h6 44
  obtain ⟨c1, O1, c2, O2, k71, k72, rfl⟩ := h7
  obtain ⟨f7, g7, r7⟩ := seg_ord k71 47
  obtain ⟨f8, g8, r8⟩ := seg_ord k72 49
  obtain ⟨d1, rfl⟩ := h8
  obtain ⟨e1, P1, e2, k9, rfl⟩ := h9
  obtain ⟨f9, g9, r9⟩ := seg_ord k9 54
  obtain ⟨t1, t2, t3, rfl⟩ := h10
  refine ⟨fun k => if k = 0 then h0 else if k < 9 then f1 (k - 1) else if k < 17 then f2 (k - 9) else if k < 25 then f3 (k - 17) else if k = 25 then q4 else if k = 26 then a1 else if k < 35 then f4 (k - 27) else if k = 35 then q5 else if k < 38 then f5 (k - 36) else if k = 38 then b2 else if k = 39 then b3 else if k = 40 then b4 else if k = 41 then b5 else if k = 42 then b6 else if k = 43 then b7 else if k < 46 then f6 (k - 44) else if k = 46 then q7 else if k < 49 then f7 (k - 47) else if k < 51 then f8 (k - 49) else if k = 51 then q8 else if k = 52 then d1 else if k = 53 then q9 else if k < 56 then f9 (k - 54) else if k = 56 then e2 else if k = 57 then q10 else if k = 58 then t1 else if k = 59 then t2 else t3, rfl, fun q hq => ?_⟩
  have v0 : q 0 = h0 := (hq 0 (by omega)).trans rfl
  have v25 : q 25 = q4 := (hq 25 (by omega)).trans rfl
  have v26 : q 26 = a1 := (hq 26 (by omega)).trans rfl
  have v35 : q 35 = q5 := (hq 35 (by omega)).trans rfl
  have v38 : q 38 = b2 := (hq 38 (by omega)).trans rfl
  have v39 : q 39 = b3 := (hq 39 (by omega)).trans rfl
  have v40 : q 40 = b4 := (hq 40 (by omega)).trans rfl
  have v41 : q 41 = b5 := (hq 41 (by omega)).trans rfl
  have v42 : q 42 = b6 := (hq 42 (by omega)).trans rfl
  have v43 : q 43 = b7 := (hq 43 (by omega)).trans rfl
  have v46 : q 46 = q7 := (hq 46 (by omega)).trans rfl
  have v51 : q 51 = q8 := (hq 51 (by omega)).trans rfl
  have v52 : q 52 = d1 := (hq 52 (by omega)).trans rfl
  have v53 : q 53 = q9 := (hq 53 (by omega)).trans rfl
  have v56 : q 56 = e2 := (hq 56 (by omega)).trans rfl
  have v57 : q 57 = q10 := (hq 57 (by omega)).trans rfl
  have v58 : q 58 = t1 := (hq 58 (by omega)).trans rfl
  have v59 : q 59 = t2 := (hq 59 (by omega)).trans rfl
  have v60 : q 60 = t3 := (hq 60 (by omega)).trans rfl
  have v1 : q 1 = q1 := ((hq 1 (by omega)).trans rfl).trans g1
  have v9 : q 9 = q2 := ((hq 9 (by omega)).trans rfl).trans g2
  have v17 : q 17 = q3 := ((hq 17 (by omega)).trans rfl).trans g3
  have v27 : q 27 = a2 := ((hq 27 (by omega)).trans rfl).trans g4
  have v36 : q 36 = b1 := ((hq 36 (by omega)).trans rfl).trans g5
  have v44 : q 44 = q6 := ((hq 44 (by omega)).trans rfl).trans g6
  have v47 : q 47 = c1 := ((hq 47 (by omega)).trans rfl).trans g7
  have v49 : q 49 = c2 := ((hq 49 (by omega)).trans rfl).trans g8
  have v54 : q 54 = e1 := ((hq 54 (by omega)).trans rfl).trans g9
  have s1 := r1 q cMem (fun k hk => by rw [hq _ (by omega)]; dsimp only; rw [if_neg (by omega), if_pos (by omega), Nat.add_sub_cancel_left]) (fun k hk => by funext i; unfold cMem; rw [if_pos (by omega), Nat.add_sub_cancel_left])
  have s2 := r2 q cMem (fun k hk => by rw [hq _ (by omega)]; dsimp only; rw [if_neg (by omega), if_neg (by omega), if_pos (by omega), Nat.add_sub_cancel_left]) (fun k hk => by funext i; unfold cMem; rw [if_neg (by omega), if_pos (by omega), Nat.add_sub_cancel_left])
  have s3 := r3 q cMem (fun k hk => by rw [hq _ (by omega)]; dsimp only; rw [if_neg (by omega), if_neg (by omega), if_neg (by omega), if_pos (by omega), Nat.add_sub_cancel_left]) (fun k hk => by funext i; unfold cMem; rw [if_neg (by omega), if_neg (by omega), if_pos (by omega), Nat.add_sub_cancel_left])
  have s4 := r4 q cMem (fun k hk => by rw [hq _ (by omega)]; dsimp only; rw [if_neg (by omega), if_neg (by omega), if_neg (by omega), if_neg (by omega), if_neg (by omega), if_neg (by omega), if_pos (by omega), Nat.add_sub_cancel_left]) (fun k hk => by funext i; unfold cMem; rw [if_neg (by omega), if_neg (by omega), if_neg (by omega), if_pos (by omega), Nat.add_sub_cancel_left])
  have s5 := r5 q cMem (fun k hk => by rw [hq _ (by omega)]; dsimp only; rw [if_neg (by omega), if_neg (by omega), if_neg (by omega), if_neg (by omega), if_neg (by omega), if_neg (by omega), if_neg (by omega), if_neg (by omega), if_pos (by omega), Nat.add_sub_cancel_left]) (fun k hk => by funext i; unfold cMem; rw [if_neg (by omega), if_neg (by omega), if_neg (by omega), if_neg (by omega), if_neg (by omega), if_neg (by omega), if_neg (by omega), if_neg (by omega)])
  have s6 := r6 q cMem (fun k hk => by rw [hq _ (by omega)]; dsimp only; rw [if_neg (by omega), if_neg (by omega), if_neg (by omega), if_neg (by omega), if_neg (by omega), if_neg (by omega), if_neg (by omega), if_neg (by omega), if_neg (by omega), if_neg (by omega), if_neg (by omega), if_neg (by omega), if_neg (by omega), if_neg (by omega), if_neg (by omega), if_pos (by omega), Nat.add_sub_cancel_left]) (fun k hk => by funext i; unfold cMem; rw [if_neg (by omega), if_neg (by omega), if_neg (by omega), if_neg (by omega), if_neg (by omega), if_neg (by omega), if_neg (by omega), if_neg (by omega)])
  have s7 := r7 q cMem (fun k hk => by rw [hq _ (by omega)]; dsimp only; rw [if_neg (by omega), if_neg (by omega), if_neg (by omega), if_neg (by omega), if_neg (by omega), if_neg (by omega), if_neg (by omega), if_neg (by omega), if_neg (by omega), if_neg (by omega), if_neg (by omega), if_neg (by omega), if_neg (by omega), if_neg (by omega), if_neg (by omega), if_neg (by omega), if_neg (by omega), if_pos (by omega), Nat.add_sub_cancel_left]) (fun k hk => by funext i; unfold cMem; rw [if_neg (by omega), if_neg (by omega), if_neg (by omega), if_neg (by omega), if_neg (by omega), if_neg (by omega), if_neg (by omega), if_neg (by omega)])
  have s8 := r8 q cMem (fun k hk => by rw [hq _ (by omega)]; dsimp only; rw [if_neg (by omega), if_neg (by omega), if_neg (by omega), if_neg (by omega), if_neg (by omega), if_neg (by omega), if_neg (by omega), if_neg (by omega), if_neg (by omega), if_neg (by omega), if_neg (by omega), if_neg (by omega), if_neg (by omega), if_neg (by omega), if_neg (by omega), if_neg (by omega), if_neg (by omega), if_neg (by omega), if_pos (by omega), Nat.add_sub_cancel_left]) (fun k hk => by funext i; unfold cMem; rw [if_neg (by omega), if_neg (by omega), if_neg (by omega), if_neg (by omega), if_neg (by omega), if_neg (by omega), if_neg (by omega), if_neg (by omega)])
  have s9 := r9 q cMem (fun k hk => by rw [hq _ (by omega)]; dsimp only; rw [if_neg (by omega), if_neg (by omega), if_neg (by omega), if_neg (by omega), if_neg (by omega), if_neg (by omega), if_neg (by omega), if_neg (by omega), if_neg (by omega), if_neg (by omega), if_neg (by omega), if_neg (by omega), if_neg (by omega), if_neg (by omega), if_neg (by omega), if_neg (by omega), if_neg (by omega), if_neg (by omega), if_neg (by omega), if_neg (by omega), if_neg (by omega), if_neg (by omega), if_pos (by omega), Nat.add_sub_cancel_left]) (fun k hk => by funext i; unfold cMem; rw [if_neg (by omega), if_neg (by omega), if_neg (by omega), if_neg (by omega), if_neg (by omega), if_neg (by omega), if_neg (by omega), if_neg (by omega)])
  have z0 : cMem 0 = fun _ => 0 := by funext i; unfold cMem; rw [if_neg (by omega), if_neg (by omega), if_neg (by omega), if_neg (by omega), if_neg (by omega), if_neg (by omega), if_neg (by omega), if_neg (by omega)]
  have z25 : cMem 25 = fun _ => 0 := by funext i; unfold cMem; rw [if_neg (by omega), if_neg (by omega), if_neg (by omega), if_neg (by omega), if_neg (by omega), if_neg (by omega), if_neg (by omega), if_neg (by omega)]
  have z26 : cMem 26 = fun _ => 0 := by funext i; unfold cMem; rw [if_neg (by omega), if_neg (by omega), if_neg (by omega), if_neg (by omega), if_neg (by omega), if_neg (by omega), if_neg (by omega), if_neg (by omega)]
  have z35 : cMem 35 = fun _ => 0 := by funext i; unfold cMem; rw [if_neg (by omega), if_neg (by omega), if_neg (by omega), if_neg (by omega), if_neg (by omega), if_neg (by omega), if_neg (by omega), if_neg (by omega)]
  have z38 : cMem 38 = fun _ => 0 := by funext i; unfold cMem; rw [if_neg (by omega), if_neg (by omega), if_neg (by omega), if_neg (by omega), if_neg (by omega), if_neg (by omega), if_neg (by omega), if_neg (by omega)]
  have z39 : cMem 39 = fun _ => 0 := by funext i; unfold cMem; rw [if_neg (by omega), if_neg (by omega), if_neg (by omega), if_neg (by omega), if_neg (by omega), if_neg (by omega), if_neg (by omega), if_neg (by omega)]
  have z40 : cMem 40 = fun _ => 0 := by funext i; unfold cMem; rw [if_neg (by omega), if_neg (by omega), if_neg (by omega), if_neg (by omega), if_neg (by omega), if_neg (by omega), if_neg (by omega), if_neg (by omega)]
  have z41 : cMem 41 = fun _ => 0 := by funext i; unfold cMem; rw [if_neg (by omega), if_neg (by omega), if_neg (by omega), if_neg (by omega), if_neg (by omega), if_neg (by omega), if_neg (by omega), if_neg (by omega)]
  have z42 : cMem 42 = fun _ => 0 := by funext i; unfold cMem; rw [if_neg (by omega), if_neg (by omega), if_neg (by omega), if_neg (by omega), if_neg (by omega), if_neg (by omega), if_neg (by omega), if_neg (by omega)]
  have z43 : cMem 43 = fun _ => 0 := by funext i; unfold cMem; rw [if_neg (by omega), if_neg (by omega), if_neg (by omega), if_neg (by omega), if_neg (by omega), if_neg (by omega), if_neg (by omega), if_neg (by omega)]
  have z52 : cMem 52 = fun _ => 0 := by funext i; unfold cMem; rw [if_neg (by omega), if_neg (by omega), if_neg (by omega), if_neg (by omega), if_neg (by omega), if_neg (by omega), if_neg (by omega), if_neg (by omega)]
  have z53 : cMem 53 = fun _ => 0 := by funext i; unfold cMem; rw [if_neg (by omega), if_neg (by omega), if_neg (by omega), if_neg (by omega), if_neg (by omega), if_neg (by omega), if_neg (by omega), if_neg (by omega)]
  have z56 : cMem 56 = fun _ => 0 := by funext i; unfold cMem; rw [if_neg (by omega), if_neg (by omega), if_neg (by omega), if_neg (by omega), if_neg (by omega), if_neg (by omega), if_neg (by omega), if_neg (by omega)]
  have z57 : cMem 57 = fun _ => 0 := by funext i; unfold cMem; rw [if_neg (by omega), if_neg (by omega), if_neg (by omega), if_neg (by omega), if_neg (by omega), if_neg (by omega), if_neg (by omega), if_neg (by omega)]
  have z58 : cMem 58 = fun _ => 0 := by funext i; unfold cMem; rw [if_neg (by omega), if_neg (by omega), if_neg (by omega), if_neg (by omega), if_neg (by omega), if_neg (by omega), if_neg (by omega), if_neg (by omega)]
  have z59 : cMem 59 = fun _ => 0 := by funext i; unfold cMem; rw [if_neg (by omega), if_neg (by omega), if_neg (by omega), if_neg (by omega), if_neg (by omega), if_neg (by omega), if_neg (by omega), if_neg (by omega)]
  have z60 : cMem 60 = lan := by funext i; unfold cMem; rw [if_neg (by omega), if_neg (by omega), if_neg (by omega), if_neg (by omega), if_neg (by omega), if_neg (by omega), if_pos rfl]
  have z51 : cMem 51 = fun i => if i = 3 then 1 else 0 := by funext i; unfold cMem; simp
  have z46 : cMem 46 = fun i => if 6 ≤ i ∧ i < 10 then -4 else 0 := by funext i; unfold cMem; simp
  have y26 : ([(a1, .inl (G.2.2.1 1, 400, .inl (fun _ => 0)))] : va_W) = wsT (G.1, q, G.2.2) 26 [(1, 400, [])] cMem := wsT_cons' rfl rfl (by show _ = (q 26, _); rw [v26]; show _ = (_, (Sum.inl (G.2.2.1 1, _, Sum.inl (fun i => Int32.ofInt (cMem 26 i))) : va_E)); rw [z26]; rfl)
  have y38 : ([(b2, .inl (G.2.2.1 0, 5, .inl (fun _ => 0)))] : va_W) = wsT (G.1, q, G.2.2) 38 [(0, 5, [])] cMem := wsT_cons' rfl rfl (by show _ = (q 38, _); rw [v38]; show _ = (_, (Sum.inl (G.2.2.1 0, _, Sum.inl (fun i => Int32.ofInt (cMem 38 i))) : va_E)); rw [z38]; rfl)
  have y39 : ([(b3, .inl (G.2.2.1 0, 5, .inl (fun _ => 0)))] : va_W) = wsT (G.1, q, G.2.2) 39 [(0, 5, [])] cMem := wsT_cons' rfl rfl (by show _ = (q 39, _); rw [v39]; show _ = (_, (Sum.inl (G.2.2.1 0, _, Sum.inl (fun i => Int32.ofInt (cMem 39 i))) : va_E)); rw [z39]; rfl)
  have y40 : ([(b4, .inl (G.2.2.1 0, 5, .inl (fun _ => 0)))] : va_W) = wsT (G.1, q, G.2.2) 40 [(0, 5, [])] cMem := wsT_cons' rfl rfl (by show _ = (q 40, _); rw [v40]; show _ = (_, (Sum.inl (G.2.2.1 0, _, Sum.inl (fun i => Int32.ofInt (cMem 40 i))) : va_E)); rw [z40]; rfl)
  have y41 : ([(b5, .inl (G.2.2.1 0, 5, .inl (fun _ => 0)))] : va_W) = wsT (G.1, q, G.2.2) 41 [(0, 5, [])] cMem := wsT_cons' rfl rfl (by show _ = (q 41, _); rw [v41]; show _ = (_, (Sum.inl (G.2.2.1 0, _, Sum.inl (fun i => Int32.ofInt (cMem 41 i))) : va_E)); rw [z41]; rfl)
  have y42 : ([(b6, .inl (G.2.2.1 0, 63, .inl (fun _ => 0)))] : va_W) = wsT (G.1, q, G.2.2) 42 [(0, 63, [])] cMem := wsT_cons' rfl rfl (by show _ = (q 42, _); rw [v42]; show _ = (_, (Sum.inl (G.2.2.1 0, _, Sum.inl (fun i => Int32.ofInt (cMem 42 i))) : va_E)); rw [z42]; rfl)
  have y43 : ([(b7, .inl (G.2.2.1 0, 63, .inl (fun _ => 0)))] : va_W) = wsT (G.1, q, G.2.2) 43 [(0, 63, [])] cMem := wsT_cons' rfl rfl (by show _ = (q 43, _); rw [v43]; show _ = (_, (Sum.inl (G.2.2.1 0, _, Sum.inl (fun i => Int32.ofInt (cMem 43 i))) : va_E)); rw [z43]; rfl)
  have y52 : ([(d1, .inl (G.2.2.1 0, 63, .inl (fun _ => 0)))] : va_W) = wsT (G.1, q, G.2.2) 52 [(0, 63, [])] cMem := wsT_cons' rfl rfl (by show _ = (q 52, _); rw [v52]; show _ = (_, (Sum.inl (G.2.2.1 0, _, Sum.inl (fun i => Int32.ofInt (cMem 52 i))) : va_E)); rw [z52]; rfl)
  have y56 : ([(e2, .inl (G.2.2.1 0, 5, .inl (fun _ => 0)))] : va_W) = wsT (G.1, q, G.2.2) 56 [(0, 5, [])] cMem := wsT_cons' rfl rfl (by show _ = (q 56, _); rw [v56]; show _ = (_, (Sum.inl (G.2.2.1 0, _, Sum.inl (fun i => Int32.ofInt (cMem 56 i))) : va_E)); rw [z56]; rfl)
  have y58 : ([(t1, .inl (G.2.2.1 0, 160, .inl (fun _ => 0)))] : va_W) = wsT (G.1, q, G.2.2) 58 [(0, 160, [])] cMem := wsT_cons' rfl rfl (by show _ = (q 58, _); rw [v58]; show _ = (_, (Sum.inl (G.2.2.1 0, _, Sum.inl (fun i => Int32.ofInt (cMem 58 i))) : va_E)); rw [z58]; rfl)
  have y59 : ([(t2, .inl (G.2.2.1 0, 4, .inl (fun _ => 0)))] : va_W) = wsT (G.1, q, G.2.2) 59 [(0, 4, [])] cMem := wsT_cons' rfl rfl (by show _ = (q 59, _); rw [v59]; show _ = (_, (Sum.inl (G.2.2.1 0, _, Sum.inl (fun i => Int32.ofInt (cMem 59 i))) : va_E)); rw [z59]; rfl)
  have y60 : ([(t3, .inl (G.2.2.1 0, 4, .inl (upd (upd (upd (upd (fun _ => 0) 0 (-4)) 1 (-4)) 2 (-4)) 3 (-4))))] : va_W) = wsT (G.1, q, G.2.2) 60 [(0, 4, [])] cMem := wsT_cons' rfl rfl (by show _ = (q 60, _); rw [v60]; show _ = (_, (Sum.inl (G.2.2.1 0, _, Sum.inl (fun i => Int32.ofInt (cMem 60 i))) : va_E)); rw [z60, ← lanes_eq])
  have j25 : ((([] : va_W) ++ [(a1, .inl (G.2.2.1 1, 400, .inl (fun _ => 0)))]) ++ M2) = wsT (G.1, q, G.2.2) 26 (sl 26 35) cMem := by
    rw [List.nil_append, y26, s4]
    rw [← wsT_append (n := 27) rfl]
    rfl
  have j35 : (((((((([] : va_W) ++ N1) ++ [(b2, .inl (G.2.2.1 0, 5, .inl (fun _ => 0)))]) ++ [(b3, .inl (G.2.2.1 0, 5, .inl (fun _ => 0)))]) ++ [(b4, .inl (G.2.2.1 0, 5, .inl (fun _ => 0)))]) ++ [(b5, .inl (G.2.2.1 0, 5, .inl (fun _ => 0)))]) ++ [(b6, .inl (G.2.2.1 0, 63, .inl (fun _ => 0)))]) ++ [(b7, .inl (G.2.2.1 0, 63, .inl (fun _ => 0)))]) = wsT (G.1, q, G.2.2) 36 (sl 36 44) cMem := by
    rw [List.nil_append, s5, y38, y39, y40, y41, y42, y43]
    rw [← wsT_append (n := 38) rfl]
    rw [← wsT_append (n := 39) rfl]
    rw [← wsT_append (n := 40) rfl]
    rw [← wsT_append (n := 41) rfl]
    rw [← wsT_append (n := 42) rfl]
    rw [← wsT_append (n := 43) rfl]
    rfl
  have j46 : ((([] : va_W) ++ O1) ++ O2) = wsT (G.1, q, G.2.2) 47 (sl 47 51) cMem := by
    rw [List.nil_append, s7, s8]
    rw [← wsT_append (n := 49) rfl]
    rfl
  have j51 : (([] : va_W) ++ [(d1, .inl (G.2.2.1 0, 63, .inl (fun _ => 0)))]) = wsT (G.1, q, G.2.2) 52 (sl 52 53) cMem := by
    rw [List.nil_append, y52]
    rfl
  have j53 : ((([] : va_W) ++ P1) ++ [(e2, .inl (G.2.2.1 0, 5, .inl (fun _ => 0)))]) = wsT (G.1, q, G.2.2) 54 (sl 54 57) cMem := by
    rw [List.nil_append, s9, y56]
    rw [← wsT_append (n := 56) rfl]
    rfl
  have j57 : (((([] : va_W) ++ [(t1, .inl (G.2.2.1 0, 160, .inl (fun _ => 0)))]) ++ [(t2, .inl (G.2.2.1 0, 4, .inl (fun _ => 0)))]) ++ [(t3, .inl (G.2.2.1 0, 4, .inl (upd (upd (upd (upd (fun _ => 0) 0 (-4)) 1 (-4)) 2 (-4)) 3 (-4))))]) = wsT (G.1, q, G.2.2) 58 (sl 58 61) cMem := by
    rw [List.nil_append, y58, y59, y60]
    rw [← wsT_append (n := 59) rfl]
    rw [← wsT_append (n := 60) rfl]
    rfl
  have o25 := wsT_cons' (G := (G.1, q, G.2.2)) (o := 25) (n := 26) (e := (6, 0, [29, 0, 30, 0, 0, 0, 0, 0, 2, 0, 1, 0])) (μ := cMem) (x := (q4, .inr (3, [.ref a1, .int 0, .ref a2, .int 0, .int 0, .int 0, .int 0, .int 0, .int 0, .int 0, .long 0, .int 0]))) rfl j25 (by show _ = (q 25, _); rw [v25]; refine congrArg (Prod.mk _) ?_; show _ = (Sum.inr (_, List.mapIdx (slotV (G.1, q, G.2.2) (cMem 25)) [29, 0, 30, 0, 0, 0, 0, 0, 2, 0, 1, 0]) : va_E); simp only [List.mapIdx_cons, List.mapIdx_nil, slotV, z25, v26, v27]; rfl)
  have o35 := wsT_cons' (G := (G.1, q, G.2.2)) (o := 35) (n := 36) (e := (8, 0, [4, 39, 41, 42, 43, 44, 45, 46, 0, 0, 0, 0, 0])) (μ := cMem) (x := (q5, .inr (5, [.ref q1, .ref b1, .ref b2, .ref b3, .ref b4, .ref b5, .ref b6, .ref b7, .int 0, .int 0, .int 0, .int 0, .int 0]))) rfl j35 (by show _ = (q 35, _); rw [v35]; refine congrArg (Prod.mk _) ?_; show _ = (Sum.inr (_, List.mapIdx (slotV (G.1, q, G.2.2) (cMem 35)) [4, 39, 41, 42, 43, 44, 45, 46, 0, 0, 0, 0, 0]) : va_E); simp only [List.mapIdx_cons, List.mapIdx_nil, slotV, z35, v1, v36, v38, v39, v40, v41, v42, v43]; rfl)
  have o46 := wsT_cons' (G := (G.1, q, G.2.2)) (o := 46) (n := 47) (e := (5, 0, [4, 38, 50, 52, 2, 2, 0, 0, 0, 0])) (μ := cMem) (x := (q7, .inr (2, [.ref q1, .ref q5, .ref c1, .ref c2, .int 0, .int 0, .int (-4), .int (-4), .int (-4), .int (-4)]))) rfl j46 (by show _ = (q 46, _); rw [v46]; refine congrArg (Prod.mk _) ?_; show _ = (Sum.inr (_, List.mapIdx (slotV (G.1, q, G.2.2) (cMem 46)) [4, 38, 50, 52, 2, 2, 0, 0, 0, 0]) : va_E); simp only [List.mapIdx_cons, List.mapIdx_nil, slotV, z46, v1, v35, v47, v49]; rfl)
  have o51 := wsT_cons' (G := (G.1, q, G.2.2)) (o := 51) (n := 52) (e := (10, 0, [4, 55, 0, 2])) (μ := cMem) (x := (q8, .inr (7, [.ref q1, .ref d1, .int 0, .int 1]))) rfl j51 (by show _ = (q 51, _); rw [v51]; refine congrArg (Prod.mk _) ?_; show _ = (Sum.inr (_, List.mapIdx (slotV (G.1, q, G.2.2) (cMem 51)) [4, 55, 0, 2]) : va_E); simp only [List.mapIdx_cons, List.mapIdx_nil, slotV, z51, v1, v52]; rfl)
  have o53 := wsT_cons' (G := (G.1, q, G.2.2)) (o := 53) (n := 54) (e := (3, 0, [4, 57, 59, 0, 0])) (μ := cMem) (x := (q9, .inr (0, [.ref q1, .ref e1, .ref e2, .int 0, .int 0]))) rfl j53 (by show _ = (q 53, _); rw [v53]; refine congrArg (Prod.mk _) ?_; show _ = (Sum.inr (_, List.mapIdx (slotV (G.1, q, G.2.2) (cMem 53)) [4, 57, 59, 0, 0]) : va_E); simp only [List.mapIdx_cons, List.mapIdx_nil, slotV, z53, v1, v54, v56]; rfl)
  have o57 := wsT_cons' (G := (G.1, q, G.2.2)) (o := 57) (n := 58) (e := (9, 0, [61, 62, 63, 0])) (μ := cMem) (x := (q10, .inr (6, [.ref t1, .ref t2, .ref t3, .int 0]))) rfl j57 (by show _ = (q 57, _); rw [v57]; refine congrArg (Prod.mk _) ?_; show _ = (Sum.inr (_, List.mapIdx (slotV (G.1, q, G.2.2) (cMem 57)) [61, 62, 63, 0]) : va_E); simp only [List.mapIdx_cons, List.mapIdx_nil, slotV, z57, v58, v59, v60]; rfl)
  refine wsT_cons' (o := 0) (n := 1) (e := (11, 0, [4, 12, 20, 28, 38, 47, 49, 54, 56, 60, 0])) rfl ?_ (by show _ = (q 0, _); rw [v0]; refine congrArg (Prod.mk _) ?_; show _ = (Sum.inr (_, List.mapIdx (slotV (G.1, q, G.2.2) (cMem 0)) [4, 12, 20, 28, 38, 47, 49, 54, 56, 60, 0]) : va_E); simp only [List.mapIdx_cons, List.mapIdx_nil, slotV, z0, v1, v9, v17, v25, v35, v44, v46, v51, v53, v57]; rfl)
  rw [List.nil_append, s1, s2, s3, o25, o35, s6, o46, o51, o53, o57]
  rw [← wsT_append (n := 9) rfl]
  rw [← wsT_append (n := 17) rfl]
  rw [← wsT_append (n := 25) rfl]
  rw [← wsT_append (n := 35) rfl]
  rw [← wsT_append (n := 44) rfl]
  rw [← wsT_append (n := 46) rfl]
  rw [← wsT_append (n := 51) rfl]
  rw [← wsT_append (n := 53) rfl]
  rw [← wsT_append (n := 57) rfl]
  rfl
