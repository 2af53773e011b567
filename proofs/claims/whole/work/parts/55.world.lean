theorem wsOf_T {G : Nv} {Sh : Shp} {μ : Mem} : wsOf G Sh μ = wsT G 0 Sh μ := by
  unfold wsOf wsT
  congr 1
  funext k e
  rw [Nat.zero_add]
def shE (e : She) : She := (e.1, e.2.1, e.2.2.map (fun c => if 3 ≤ c then c + 61 else c))
theorem slotV_sh {G : Nv} {f q : Nat → Nat} {m : Nat → Int} {i c : Nat} (h : 3 ≤ c → q (61 + (c - 3)) = f (c - 3)) : slotV (G.1, q, G.2.2) m i (if 3 ≤ c then c + 61 else c) = slotV (G.1, f, G.2.2) m i c := by
  match c, h with
  | 0, _ => rfl
  | 1, _ => rfl
  | 2, _ => rfl
  | j + 3, h =>
    have h1 := h (by omega)
    rw [if_pos (by omega), show j + 3 + 61 = (61 + j) + 3 by omega]
    show Value.ref (q (61 + j)) = Value.ref (f j)
    have : j + 3 - 3 = j := by omega
    rw [this] at h1
    rw [h1]
theorem cellE_sh {G : Nv} {f q : Nat → Nat} {m : Nat → Int} (e : She) (h : ∀ c ∈ e.2.2, 3 ≤ c → q (61 + (c - 3)) = f (c - 3)) : cellE (G.1, q, G.2.2) (shE e) m = cellE (G.1, f, G.2.2) e m := by
  obtain ⟨a, n, sl⟩ := e
  match a with
  | 0 => rfl
  | 1 => rfl
  | 2 => rfl
  | j + 3 =>
    show (Sum.inr (j, List.mapIdx (slotV (G.1, q, G.2.2) m) (sl.map _)) : va_E) = Sum.inr (j, List.mapIdx (slotV (G.1, f, G.2.2) m) sl)
    congr 2
    apply List.ext_getElem?
    intro i
    rw [List.getElem?_mapIdx, List.getElem?_mapIdx, List.getElem?_map]
    cases hc : sl[i]? with
    | none => rfl
    | some c =>
      show some _ = some _
      rw [slotV_sh (h c (List.mem_of_getElem? hc))]
theorem seg_gen {G : Nv} {f q : Nat → Nat} {μ ν : Mem} (hq : ∀ k, k < 27 → q (61 + k) = f k) (hμ : ∀ k, ν (61 + k) = μ k) : wsOf (G.1, f, G.2.2) SM μ = wsT (G.1, q, G.2.2) 61 (SM.map shE) ν := by
  have hsm : ∀ e ∈ SM, ∀ c ∈ e.2.2, 3 ≤ c → c - 3 < 27 := by decide +kernel
  unfold wsOf wsT
  apply List.ext_getElem?
  intro k
  rw [List.getElem?_mapIdx, List.getElem?_mapIdx, List.getElem?_map]
  cases hk : SM[k]? with
  | none => rfl
  | some e =>
    have hl : k < 27 := (List.getElem?_eq_some_iff.mp hk).1
    show some (f k, cellE (G.1, f, G.2.2) e (μ k)) = some (q (61 + k), cellE (G.1, q, G.2.2) (shE e) (ν (61 + k)))
    rw [hq k hl, hμ k, cellE_sh e (fun c hc h3 => hq _ (hsm e (List.mem_of_getElem? hk) c hc h3))]
theorem cMem_model (k : Nat) : cMem (61 + k) = mMem k := by
  funext i
  unfold cMem
  rw [if_neg (by omega), if_neg (by omega), if_neg (by omega), if_neg (by omega), if_neg (by omega), if_neg (by omega), if_neg (by omega), if_pos (by omega), Nat.add_sub_cancel_left]
theorem sl_SM : sl 61 88 = SM.map shE := by decide +kernel
theorem seg_model {G : Nv} {h0 : Nat} {L : va_W} (h : qX9 G h0 L) : ∃ f : Nat → Nat, f 0 = h0 ∧ ∀ (q : Nat → Nat), (∀ k, k < 27 → q (61 + k) = f k) → L = wsT (G.1, q, G.2.2) 61 (sl 61 88) cMem := by
  obtain ⟨f, hf0, -, hL⟩ := h
  exact ⟨f, hf0, fun q hq => hL.trans ((seg_gen hq cMem_model).trans (by rw [sl_SM]))⟩
theorem world88 {G : Nv} {h0 h1 : Nat} {L M : va_W} (h : qX8 G h0 L) (hm : qX9 G h1 M) : ∃ q : Nat → Nat, q 0 = h0 ∧ q 61 = h1 ∧ (∀ k, 90 ≤ k → q k = G.2.1 k) ∧ L ++ M = wsOf (G.1, q, G.2.2) S88 cMem := by
  obtain ⟨f, hf, r⟩ := fl8 h
  obtain ⟨g, hg, t⟩ := seg_model hm
  refine ⟨fun k => if k < 61 then f k else if k < 90 then g (k - 61) else G.2.1 k, hf, hg, fun k hk => ?_, ?_⟩
  · dsimp only; rw [if_neg (by omega), if_neg (by omega)]
  · have e1 := r (fun k => if k < 61 then f k else if k < 90 then g (k - 61) else G.2.1 k) (fun k hk => if_pos hk)
    have e2 := t (fun k => if k < 61 then f k else if k < 90 then g (k - 61) else G.2.1 k) (fun k hk => by rw [if_neg (by omega), if_pos (by omega), Nat.add_sub_cancel_left])
    have e3 : S88 = sl 0 61 ++ sl 61 88 := by decide +kernel
    rw [e1, e2, wsOf_T, e3, wsT_append (n := 61) rfl]
