/-! ===== the best order ===== -/
noncomputable def bstS (R : Rd) (p : List Int) (b : Int × List Int) : Int × List Int := if doneP R (ofL p) ≠ -4 ∧ (b.1 = -4 ∨ doneP R (ofL p) < b.1) then (doneP R (ofL p), p) else b
theorem bestP_s (R : Rd) (n : Int) (f : Nat) (p : List Int) (b : Int × List Int) : bestP R n (f + 1) p b = if lastI n (ofL p) < 0 then bstS R p b else bestP R n f (stepL n p) (bstS R p b) := by
  rw [bestP]; rfl
def Cord (a j : Nat) : Prop := (35 ≤ a ∧ a ≤ 45) ∨ (a = 46 ∧ j = 6) ∨ a = 48 ∨ (a = 49 ∧ j = 1) ∨ a = 50
theorem cbest35 {R : Rd} (hO : Okr R) : ∀ (g f : Nat) (k : Int) (μ : Mem) (p : List Int) (b : Int × List Int), g < f → 0 ≤ k → k + g = 120 → endsP (R 0 1) g p = true → RC μ 1 R → OrdM μ 48 5 (ofL p) → μ 47 1 = R 0 1 → μ 46 6 = b.1 → (b.1 ≠ -4 → OrdM μ 50 5 (ofL b.2)) → ∃ μ', pla_findOrder_35 f k μ = some μ' ∧ Off Cord μ μ' ∧ μ' 46 6 = (bestP R (R 0 1) g p b).1 ∧ ((bestP R (R 0 1) g p b).1 ≠ -4 → OrdM μ' 50 5 (ofL (bestP R (R 0 1) g p b).2)) := by
  have hb := hO.1
  intro g
  induction g with
  | zero => intro f k μ p b _ _ _ he; exact absurd he (by simp [endsP])
  | succ g ih =>
    intro f k μ p b hf h0 hk he hR hP h47 hm hfst
    obtain ⟨f, rfl⟩ : ∃ z, f = z + 1 := ⟨f - 1, by omega⟩
    rw [endsP, Bool.and_eq_true, Bool.or_eq_true] at he
    have hin : inP R (ofL p) := fun i i1 i2 => inL_of (by omega) he.1 i ⟨i1, i2⟩
    obtain ⟨d, μ0, a1, a2, a3, a4⟩ := allDone_eq (o1 := 47) (x2 := -4) (x3 := -4) (by omega) hR hO hin hP h47 (Or.inl ⟨by omega, by omega⟩)
    have hlv : lvR R (-4) (-4) = R := by unfold lvR; rw [if_pos (by omega)]
    rw [hlv] at a4
    have q46 : μ0 46 6 = b.1 := by rw [a3 46 (by omega)]; exact hm
    have o0 : Off Cord μ μ0 := a2.mono (fun a j z => by unfold Crun2 at z; unfold Cord; omega)
    -- the state behind this order
    have mid : ∃ μ1, pla_findOrder_35 (f + 1) k μ = pla_findOrder_104 (pla_findOrder_35 f) k μ1 ∧ Off Cord μ μ1 ∧ (∀ j, μ1 48 j = μ 48 j) ∧ μ1 47 1 = μ 47 1 ∧ μ1 46 6 = (bstS R p b).1 ∧ ((bstS R p b).1 ≠ -4 → OrdM μ1 50 5 (ofL (bstS R p b).2)) := by
      rw [pla_findOrder_35.eq_2, if_neg (by omega), a1, Option.bind_some]
      dsimp only
      rcases a4 with ⟨d1, d2, d3⟩ | ⟨d1, d2⟩
      · rw [if_neg (by omega)]
        simp only [q46]
        have tk : pla_findOrder_82 (pla_findOrder_104 (pla_findOrder_35 f)) k μ0 = pla_findOrder_104 (pla_findOrder_35 f) k (cpM (mset (mset μ0 46 6 (doneP R (ofL p))) 49 1 (mset μ0 46 6 (doneP R (ofL p)) 47 1)) 48 50 5) := by
          rw [pla_findOrder_82.eq_1, d3, Option.bind_some, bnd.eq_1, copyOf_eq (by omega), Option.bind_some]
        have took : ∃ μ1, pla_findOrder_82 (pla_findOrder_104 (pla_findOrder_35 f)) k μ0 = pla_findOrder_104 (pla_findOrder_35 f) k μ1 ∧ Off Cord μ μ1 ∧ (∀ j, μ1 48 j = μ 48 j) ∧ μ1 47 1 = μ 47 1 ∧ μ1 46 6 = doneP R (ofL p) ∧ OrdM μ1 50 5 (ofL p) := by
          refine ⟨_, tk, fun a j n => ?_, fun j => ?_, ?_, ?_, fun i i1 i2 => ?_⟩
          · rw [cp_off (fun q => n (by unfold Cord; omega)), mset_ne (fun q => n (by unfold Cord; omega)), mset_ne (fun q => n (by unfold Cord; omega))]
            exact o0 a j n
          · rw [cp_off (by omega), mset_off (by omega), mset_off (by omega), a3 48 (by omega)]
          · rw [cp_off (by omega), mset_off (by omega), mset_off (by omega), a3 47 (by omega)]
          · rw [cp_off (by omega), mset_off (by omega), mset_same]
          · rw [cp_in (by omega), mset_off (by omega), mset_off (by omega), a3 48 (by omega)]; exact hP i i1 i2
        obtain ⟨μ1, r1, r2, r3, r4, r5, r6⟩ := took
        by_cases z : b.1 = -4
        · have e : bstS R p b = (doneP R (ofL p), p) := by unfold bstS; rw [if_pos ⟨d2, Or.inl z⟩]
          rw [if_pos z, e]
          exact ⟨μ1, r1, r2, r3, r4, r5, fun _ => r6⟩
        · rw [if_neg z, d3, Option.bind_some]
          by_cases y : b.1 ≤ doneP R (ofL p)
          · have e : bstS R p b = b := by unfold bstS; rw [if_neg (fun q => by rcases q.2 with q | q; exact z q; omega)]
            rw [if_pos y, e]
            exact ⟨μ0, rfl, o0, fun j => by rw [a3 48 (by omega)], by rw [a3 47 (by omega)], q46, fun q i i1 i2 => by rw [a3 50 (by omega)]; exact hfst q i i1 i2⟩
          · have e : bstS R p b = (doneP R (ofL p), p) := by unfold bstS; rw [if_pos ⟨d2, Or.inr (by omega)⟩]
            rw [if_neg y, e]
            exact ⟨μ1, r1, r2, r3, r4, r5, fun _ => r6⟩
      · have e : bstS R p b = b := by unfold bstS; rw [if_neg (fun q => q.1 d2)]
        rw [if_pos d1, e]
        exact ⟨μ0, rfl, o0, fun j => by rw [a3 48 (by omega)], by rw [a3 47 (by omega)], q46, fun q i i1 i2 => by rw [a3 50 (by omega)]; exact hfst q i i1 i2⟩
    obtain ⟨μ1, m1, m2, m3, m4, m5, m6⟩ := mid
    have hadv := cadv_eq (o := 47) (μ := μ1) (n := R 0 1) (p := p) ⟨by omega, by omega⟩ (by rw [m4, h47]) (fun i i1 i2 => (m3 _).trans (hP i i1 i2))
    rw [m1, pla_findOrder_104.eq_1, bestP_s]
    by_cases z : lastI (R 0 1) (ofL p) < 0
    · rw [hadv.1 z, Option.bind_some, if_pos rfl, if_pos z]
      exact ⟨μ1, rfl, m2, m5, m6⟩
    · obtain ⟨μ2, b1, b2, b3⟩ := hadv.2 z
      have hnx : endsP (R 0 1) g (stepL (R 0 1) p) = true := by
        rcases he.2 with q | q
        · exact absurd (of_decide_eq_true q) z
        · exact q
      rw [b1, Option.bind_some, if_neg (by show ¬ (1 : Int) = 0; omega), if_neg z, wI_id (by omega)]
      have hR2 : RC μ2 1 R := hR.off (fun a h1 h2 => funext fun j => by rw [b2 a j (by omega), m2 a j (by unfold Cord; omega)])
      obtain ⟨μ3, e1, e2, e3, e4⟩ := ih f (k + 1) μ2 (stepL (R 0 1) p) (bstS R p b) (by omega) (by omega) (by omega) hnx hR2 b3 (by rw [b2 _ _ (by omega), m4, h47]) (by rw [b2 _ _ (by omega), m5]) (fun q i i1 i2 => by rw [b2 _ _ (by omega)]; exact m6 q i i1 i2)
      exact ⟨μ3, e1, (m2.tr (fun a j n => b2 a j (fun q => n (by unfold Cord; omega)))).tr e2, e3, e4⟩
/-- what the class knows of orders when it has looked -/
theorem cfindOrder {μ : Mem} (H : Inv μ) : ∃ R μ', pla_findOrder μ = some μ' ∧ Okr R ∧ MCr μ' R ∧ OrdC R μ' ∧ (∀ a, 61 ≤ a → μ' a = μ a) ∧ μ' 1 = μ 1 ∧ Inv μ' := by
  obtain ⟨hR, hM, hO, hT⟩ := H.R
  by_cases z : μ 46 4 = 0
  · have hb := hO.r.1
    have hn : mR μ 0 0 1 = μ 62 0 := rfl
    obtain ⟨R, hRe⟩ : ∃ R, R = mR μ 0 := ⟨_, rfl⟩
    have hMr : MCr μ R := by rw [hRe]; exact MCr_mR μ
    rw [← hRe] at hR hM hO hT hb
    obtain ⟨μ1, a1, a2, a3, a4⟩ := ordbegin_eq (o := 47) (n := R 0 1) (by omega) (mset (mset μ 46 4 1) 46 6 (-4))
    have o1 : ∀ a j, a ≠ 46 → a ≠ 47 → a ≠ 48 → μ1 a j = μ a j := fun a j z1 z2 z3 => by
      rw [a2 a j (by omega) (by omega), mset_off z1, mset_off z1]
    have o1' : ∀ j, j ≠ 4 → j ≠ 6 → μ1 46 j = μ 46 j := fun j z1 z2 => by
      rw [a2 46 j (by omega) (by omega), mset_ne (by omega), mset_ne (by omega)]
    have hR1 : RC μ1 1 R := hR.off (fun a h1 h2 => funext fun j => o1 a j (by omega) (by omega) (by omega))
    obtain ⟨μ2, b1, b2, b3, b4⟩ := cbest35 hO.r 120 BIG 0 μ1 idL (-4, idL) (by have := BIG_gt; omega) (by omega) (by omega) (ends_id ⟨by omega, by omega⟩) hR1 (fun i i1 i2 => by rw [ofL_id i ⟨i1, i2⟩]; exact a4 i i1 i2) a3 (by rw [a2 46 6 (by omega) (by omega), mset_same]) (fun q => absurd rfl q)
    have e : mset (mset μ 46 4 1) 46 6 (-4) 1 10 = R 0 1 := by rw [mset_off (by omega), mset_off (by omega)]; exact hR.1.2.1
    have q : ∀ a j, ¬ ((35 ≤ a ∧ a ≤ 45) ∨ (a = 46 ∧ (j = 4 ∨ j = 6)) ∨ (47 ≤ a ∧ a ≤ 50)) → μ2 a j = μ a j := fun a j n => by
      rw [b2 a j (fun z => n (by unfold Cord at z; omega))]
      by_cases y : a = 46
      · subst y; exact o1' j (by omega) (by omega)
      · exact o1 a j y (by omega) (by omega)
    have h46 : μ2 46 4 = 1 := by rw [b2 46 4 (by unfold Cord; omega), a2 46 4 (by omega) (by omega), mset_ne (by omega), mset_same]
    have hOC : OrdC R μ2 := ⟨b3, fun i i1 i2 q => b4 q i i1 (by omega)⟩
    have hMr2 : MCr μ2 R := hMr.off (q _ _ (by omega)) (fun j _ => q _ _ (by omega)) (funext fun j => q _ _ (by omega)) (funext fun j => q _ _ (by omega)) (funext fun j => q _ _ (by omega))
    refine ⟨R, μ2, ?_, hO.r, hMr2, hOC, fun a ha => funext fun j => q a j (by omega), funext fun j => q _ _ (by omega), ?_⟩
    · rw [pla_findOrder.eq_1, if_pos z, bnd.eq_1, bnd.eq_1, e, a1, Option.bind_some, b1]
    · obtain ⟨c1, c2, c3, c4, c5, c6, c7⟩ := H
      have hm : SmM μ μ2 := ⟨q _ _ (by omega), funext fun j => q _ _ (by omega), funext fun j => q _ _ (by omega), funext fun j => q _ _ (by omega), funext fun j => q _ _ (by omega), funext fun j => q _ _ (by omega)⟩
      refine ⟨c1.same hm (fun a _ _ => funext fun j => q _ _ (by omega)), c2.same hm (funext fun j => q _ _ (by omega)) (q _ _ (by omega)) (fun a _ _ => funext fun j => q _ _ (by omega)), c3.same (q _ _ (by omega)) (q _ _ (by omega)) (funext fun j => q _ _ (by omega)) (funext fun j => q _ _ (by omega)), c4.same (funext fun j => q _ _ (by omega)) (funext fun j => q _ _ (by omega)) (funext fun j => q _ _ (by omega)) (funext fun j => q _ _ (by omega)) (funext fun j => q _ _ (by omega)) (funext fun j => q _ _ (by omega)), c5.same (q _ _ (by omega)) (q _ _ (by omega)), c6.same (q _ _ (by omega)) (q _ _ (by omega)), Or.inr ⟨h46, R, hMr2, hO.r, hOC⟩, ?_⟩
      rw [q 46 5 (by omega)]
      refine c7.2.imp id (fun y => ⟨y.1, y.2.elim fun R' y' => ⟨R', y'.1.off (q _ _ (by omega)) (fun j _ => q _ _ (by omega)) (funext fun j => q _ _ (by omega)) (funext fun j => q _ _ (by omega)) (funext fun j => q _ _ (by omega)), y'.2.1, ?_⟩⟩)
      unfold MendC
      rw [q 46 7 (by omega), q 46 8 (by omega), q 46 9 (by omega)]
      exact y'.2.2
  · obtain ⟨R, r1, r2, r3⟩ := (H.2.2.2.2.2.2.1.resolve_left z).2
    refine ⟨R, μ, ?_, r2, r1, r3, fun a _ => rfl, rfl, H⟩
    rw [pla_findOrder.eq_1, if_neg z]
/-! ===== the reference's ===== -/
theorem msum6 {ν : Mem} {R S : Rd} {t : Int} (hM : MCr ν R) (hO : Okr R) (hV : RV R S t) (h78 : ∀ c : Int, 0 ≤ c → c < R 0 1 → ν 78 c.toNat = S 3 c) : ∀ (m f : Nat) (k : Nat) (x a : Int), m < f → (k : Int) + m = R 0 1 → -100 * (k : Int) ≤ x → x ≤ 100 * (k : Int) → (a = 1 ∧ x = sumS S k ∧ (∀ c : Int, 0 ≤ c → c < k → S 3 c ≠ -4) ∨ a = 0 ∧ ¬ allS R S) → mod_sumDone_6 ν f x a (k : Int) = some (@ite _ (allS R S) (Classical.propDecidable _) (sumS S (R 0 1).toNat) (-4)) := by
  have hb := hO.1
  intro m
  induction m with
  | zero =>
    intro f k x a hf hk hx1 hx2 ha
    obtain ⟨f, rfl⟩ : ∃ z, f = z + 1 := ⟨f - 1, by omega⟩
    rw [mod_sumDone_6.eq_2, hM.1.2, if_pos (by omega)]
    rcases ha with ⟨a1, a2, a3⟩ | ⟨a1, a2⟩
    · rw [if_neg (by omega), if_pos (show allS R S from fun c c1 c2 => a3 c c1 (by omega)), a2, show (R 0 1).toNat = k by omega]
    · rw [if_pos a1, if_neg a2]
  | succ m ih =>
    intro f k x a hf hk hx1 hx2 ha
    obtain ⟨f, rfl⟩ : ∃ z, f = z + 1 := ⟨f - 1, by omega⟩
    have hv := (hV.1 k (by omega) (by omega)).2.2.2.2
    have e78 : ld ν 78 5 (k : Int) = some (S 3 (k : Int)) := by rw [ld_ok (by omega), h78 k (by omega) (by omega)]
    have st : ∀ s : Int, mod_sumDone_36 ν (mod_sumDone_6 ν f) x (k : Int) s = mod_sumDone_6 ν f (x + S 3 (k : Int)) s ((k + 1 : Nat) : Int) := fun s => by
      rw [mod_sumDone_36.eq_1, e78, Option.bind_some, bnd.eq_1, wI_id (by omega), wI_id (by omega), show (k : Int) + 1 = ((k + 1 : Nat) : Int) by omega]
    rw [mod_sumDone_6.eq_2, hM.1.2, if_neg (by omega), st, st, e78, Option.bind_some]
    rcases ha with ⟨a1, a2, a3⟩ | ⟨a1, a2⟩
    · rw [if_neg (by omega)]
      by_cases z : S 3 (k : Int) = -4
      · rw [if_pos z]
        exact ih f (k + 1) _ 0 (by omega) (by omega) (by omega) (by omega) (Or.inr ⟨rfl, fun q => q k (by omega) (by omega) z⟩)
      · rw [if_neg z]
        refine ih f (k + 1) _ 1 (by omega) (by omega) (by omega) (by omega) (Or.inl ⟨rfl, by rw [sumS, a2], fun c c1 c2 => ?_⟩)
        by_cases y : c = (k : Int)
        · rw [y]; exact z
        · exact a3 c c1 (by omega)
    · rw [if_pos a1]
      exact ih f (k + 1) _ 0 (by omega) (by omega) (by omega) (by omega) (Or.inr ⟨rfl, a2⟩)
theorem msum_eq {ν : Mem} {R : Rd} {p : Int → Int} (hM : MCr ν R) (hO : Okr R) (hp : inP R p) (hS : RM0 ν R (runP R p 60)) : mod_sumDone ν = some (doneP R p) := by
  have hb := hO.1
  have h := msum6 hM hO (RV.run hO hp 60 (by omega)) (fun c c1 c2 => (hS.1 c c1 c2).2.2.2) (R 0 1).toNat BIG 0 0 1 (by have := BIG_gt; omega) (by omega) (by omega) (by omega) (Or.inl ⟨rfl, rfl, fun c c1 c2 => by omega⟩)
  have e0 : ((0 : Nat) : Int) = 0 := rfl
  rw [e0] at h
  rw [mod_sumDone.eq_1]
  exact h
def Mord (a j : Nat) : Prop := (75 ≤ a ∧ a ≤ 81) ∨ (a = 61 ∧ j = 31)
theorem MCr.ord {μ μ' : Mem} {R : Rd} (h : Off Mord μ μ') (H : MCr μ R) : MCr μ' R := H.off (h _ _ (by unfold Mord; omega)) (fun j _ => h _ _ (by unfold Mord; omega)) (h.cell (by unfold Mord; omega)) (h.cell (by unfold Mord; omega)) (h.cell (by unfold Mord; omega))
theorem mord79 {K : Int → Int → Mem → Option (Int × Mem)} {n : Int} {a : Int → Int} (x v : Int) (hn : n ≤ 5) : ∀ (d f : Nat) (i : Int) (μ : Mem), d < f → 0 ≤ i → i + d = n → μ 62 0 = n → (∀ j : Int, 0 ≤ j → j < n → μ 80 j.toNat = a j) → (∀ j : Int, 0 ≤ j → j < i → μ 81 j.toNat = a j) → ∃ μ', mod_order_79 K f x v i μ = K x v μ' ∧ (∀ b j, b ≠ 81 → μ' b j = μ b j) ∧ (∀ j : Int, 0 ≤ j → j < n → μ' 81 j.toNat = a j) := by
  intro d
  induction d with
  | zero =>
    intro f i μ hf h0 he h62 h80 h81
    obtain ⟨f, rfl⟩ : ∃ z, f = z + 1 := ⟨f - 1, by omega⟩
    rw [mod_order_79.eq_2, if_pos (by omega)]
    exact ⟨μ, rfl, fun _ _ _ => rfl, fun j j1 j2 => h81 j j1 (by omega)⟩
  | succ d ih =>
    intro f i μ hf h0 he h62 h80 h81
    obtain ⟨f, rfl⟩ : ∃ z, f = z + 1 := ⟨f - 1, by omega⟩
    obtain ⟨μ', g1, g2, g3⟩ := ih f (i + 1) (mset μ 81 i.toNat (a i)) (by omega) (by omega) (by omega) (by rw [mset_off (by omega)]; exact h62) (fun j j1 j2 => by rw [mset_off (by omega)]; exact h80 j j1 j2) (fun j j1 j2 => by
      rw [mset_ap]
      by_cases z : j = i
      · rw [if_pos ⟨rfl, by rw [z]⟩, z]
      · rw [if_neg (by omega)]; exact h81 j j1 (by omega))
    refine ⟨μ', ?_, fun b j hb => by rw [g2 b j hb, mset_off hb], g3⟩
    rw [mod_order_79.eq_2, if_neg (by omega), ld_ok (by omega), Option.bind_some, stx_ok (by omega), Option.bind_some, h80 i h0 (by omega), wI_id (by omega), g1]
theorem mbest38 {R : Rd} {x : Int} (hO : Okr R) (hx : x = 0 ∨ 10 ≤ x ∧ x - 10 < R 0 1) : ∀ (g f : Nat) (μ : Mem) (p : List Int) (b : Int × List Int), g + 1 < f → endsP (R 0 1) g p = true → MCr μ R → OrdM μ 80 5 (ofL p) → (b.1 ≠ -4 → ∀ j : Int, 0 ≤ j → j < R 0 1 → μ 81 j.toNat = ofL b.2 j) → ∃ μ', mod_order_38 f x b.1 1 μ = some (if (bestP R (R 0 1) g p b).1 = -4 then -4 else if x = 0 then (bestP R (R 0 1) g p b).1 else ofL (bestP R (R 0 1) g p b).2 (x - 10), μ') ∧ Off Mord μ μ' := by
  have hb := hO.1
  intro g
  induction g with
  | zero => intro f μ p b _ he; exact absurd he (by simp [endsP])
  | succ g ih =>
    intro f μ p b hf he hM hP hfst
    obtain ⟨f, rfl⟩ : ∃ z, f = z + 1 := ⟨f - 1, by omega⟩
    rw [endsP, Bool.and_eq_true, Bool.or_eq_true] at he
    have hin : inP R (ofL p) := fun i i1 i2 => inL_of (by omega) he.1 i ⟨i1, i2⟩
    have hB := BIG_gt
    obtain ⟨μ0, a1, a2, a3, a4⟩ := runs_eq (h := 60) hM hO hin (fun i i1 i2 => hP i i1 (by omega)) (by omega)
    have e60 : ((60 : Nat) : Int) = 60 := rfl
    rw [e60] at a1
    have hM0 := hM.keep a2
    have hsum := msum_eq hM0 hO hin a3
    have o0 : Off Mord μ μ0 := a2.mono (fun a j z => by unfold Rrun at z; unfold Mord; omega)
    have mid : ∃ μ1, mod_order_38 (f + 1) x b.1 1 μ = mod_order_110 (mod_order_38 f) x (bstS R p b).1 μ1 ∧ Off Mord μ μ1 ∧ (∀ j, μ1 80 j = μ 80 j) ∧ ((bstS R p b).1 ≠ -4 → ∀ j : Int, 0 ≤ j → j < R 0 1 → μ1 81 j.toNat = ofL (bstS R p b).2 j) := by
      rw [mod_order_38.eq_2, if_neg (by omega), a1, Option.bind_some, hsum, Option.bind_some]
      have took : ∃ μ1, mod_order_73 (mod_order_110 (mod_order_38 f)) x (doneP R (ofL p)) μ0 = mod_order_110 (mod_order_38 f) x (doneP R (ofL p)) μ1 ∧ Off Mord μ μ1 ∧ (∀ j, μ1 80 j = μ 80 j) ∧ (∀ j : Int, 0 ≤ j → j < R 0 1 → μ1 81 j.toNat = ofL p j) := by
        obtain ⟨μ1, g1, g2, g3⟩ := mord79 (K := mod_order_110 (mod_order_38 f)) (n := R 0 1) (a := ofL p) x (doneP R (ofL p)) (by omega) (R 0 1).toNat BIG 0 μ0 (by omega) (by omega) (by omega) hM0.1.2 (fun j j1 j2 => by rw [a2 _ _ (by unfold Rrun; omega)]; exact hP j j1 (by omega)) (fun j j1 j2 => by omega)
        refine ⟨μ1, by rw [mod_order_73.eq_1]; exact g1, o0.tr (fun a j n => g2 a j (fun q => n (by unfold Mord; omega))), fun j => by rw [g2 _ _ (by omega), a2 _ _ (by unfold Rrun; omega)], g3⟩
      obtain ⟨μ1, r1, r2, r3, r4⟩ := took
      have left : (bstS R p b) = b → ∃ μ1, mod_order_110 (mod_order_38 f) x b.1 μ0 = mod_order_110 (mod_order_38 f) x (bstS R p b).1 μ1 ∧ Off Mord μ μ1 ∧ (∀ j, μ1 80 j = μ 80 j) ∧ ((bstS R p b).1 ≠ -4 → ∀ j : Int, 0 ≤ j → j < R 0 1 → μ1 81 j.toNat = ofL (bstS R p b).2 j) := fun e => by
        rw [e]
        exact ⟨μ0, rfl, o0, fun j => a2 _ _ (by unfold Rrun; omega), fun q j j1 j2 => by rw [a2 _ _ (by unfold Rrun; omega)]; exact hfst q j j1 j2⟩
      by_cases z : doneP R (ofL p) = -4
      · rw [if_pos z]
        exact left (by unfold bstS; rw [if_neg (fun q => q.1 z)])
      · rw [if_neg z]
        by_cases y : b.1 = -4
        · have e : bstS R p b = (doneP R (ofL p), p) := by unfold bstS; rw [if_pos ⟨z, Or.inl y⟩]
          rw [if_pos y, e]
          exact ⟨μ1, r1, r2, r3, fun _ => r4⟩
        · rw [if_neg y]
          by_cases w : b.1 ≤ doneP R (ofL p)
          · rw [if_pos w]
            exact left (by unfold bstS; rw [if_neg (fun q => by rcases q.2 with q | q; exact y q; omega)])
          · have e : bstS R p b = (doneP R (ofL p), p) := by unfold bstS; rw [if_pos ⟨z, Or.inr (by omega)⟩]
            rw [if_neg w, e]
            exact ⟨μ1, r1, r2, r3, fun _ => r4⟩
    obtain ⟨μ1, m1, m2, m3, m4⟩ := mid
    have hM1 := hM.ord m2
    have hadv := madv_eq (μ := μ1) (n := R 0 1) (p := p) ⟨by omega, by omega⟩ hM1.1.2 (fun i i1 i2 => (m3 _).trans (hP i i1 i2))
    rw [m1, mod_order_110.eq_1, bestP_s]
    by_cases z : lastI (R 0 1) (ofL p) < 0
    · rw [hadv.1 z, Option.bind_some, if_pos z]
      refine ⟨μ1, ?_, m2⟩
      obtain ⟨f, rfl⟩ : ∃ z, f = z + 1 := ⟨f - 1, by omega⟩
      dsimp only
      rw [mod_order_38.eq_2, if_pos rfl]
      by_cases w : (bstS R p b).1 = -4
      · rw [if_pos w, if_pos w]
      · rw [if_neg w, if_neg w]
        rcases hx with hx | hx
        · rw [if_pos hx, if_pos hx]
        · rw [if_neg (show ¬ x = 0 by omega), if_neg (show ¬ x = 0 by omega), wI_id (by omega), ld_ok (by omega), Option.bind_some, m4 w (x - 10) (by omega) (by omega)]
    · obtain ⟨μ2, b1, b2, b3⟩ := hadv.2 z
      have hnx : endsP (R 0 1) g (stepL (R 0 1) p) = true := by
        rcases he.2 with q | q
        · exact absurd (of_decide_eq_true q) z
        · exact q
      have o2 : Off Mord μ1 μ2 := fun a j n => b2 a j (fun q => n (by unfold Mord; omega))
      rw [b1, Option.bind_some, if_neg z]
      obtain ⟨μ3, e1, e2⟩ := ih f μ2 (stepL (R 0 1) p) (bstS R p b) (by omega) hnx (hM1.ord o2) b3 (fun q j j1 j2 => by rw [b2 _ _ (by omega)]; exact m4 q j j1 j2)
      exact ⟨μ3, e1, (m2.tr o2).tr e2⟩
theorem E_order_ok : E_order Inv := by
  intro μ H x hx
  obtain ⟨c1, c2, c3, c4, c5, c6⟩ := H.c
  have aC := askC H hx
  by_cases k : x = 0 ∨ 10 ≤ x ∧ x - 10 < μ 62 0
  · -- both come to the search
    have hC : ww_order x μ = ww_order_22 x μ := by
      rw [ww_order.eq_1]
      by_cases w : x = 0
      · rw [if_pos w]
      · rw [if_neg w]
        have h2 : (ww_less μ x 10).bind (fun u1 => (roa_hasCart 1 μ u1).bind fun u2 => if u2 = 0 then some (-1, μ) else ww_order_22 x μ) = ((ww_less μ x 10).bind (fun u1 => roa_hasCart 1 μ u1)).bind fun u2 => if u2 = 0 then some (-1, μ) else ww_order_22 x μ := by
          cases ww_less μ x 10 <;> rfl
        rw [h2, aC, tT (k.resolve_left w)]
    have hM : ∀ μ1 : Mem, μ1 62 = μ 62 → mod_order x μ1 = mod_order_17 x μ1 := fun μ1 h => by
      rw [mod_order.eq_1]
      by_cases w : x = 0
      · rw [if_pos w]
      · rw [if_neg w, askM (by rw [h]; exact c5) hx, h, tT (k.resolve_left w)]
    by_cases z : μ 62 0 = 0
    · refine ⟨-2, μ, μ, ?_, ?_, H⟩
      · rw [hC, ww_order_22.eq_1, c2, if_pos z]
      · rw [hM _ rfl, mod_order_17.eq_1, if_pos z]
    · obtain ⟨R, μ1, a1, a2, a3, a4, a5, a6, a7⟩ := cfindOrder H
      have e62 : μ1 62 = μ 62 := a5 62 (by omega)
      have hn : R 0 1 = μ 62 0 := by rw [← a3.1.2, e62]
      obtain ⟨μ2, b1, b2, b3⟩ := byN_eq μ1
      have o2 : Off Mord μ1 μ2 := fun a j n => b2 a j (fun q => n (by unfold Mord; omega))
      obtain ⟨μ3, d1, d2⟩ := mbest38 (x := x) a2 (by rw [hn]; exact k) 120 BIG μ2 idL (-4, idL) (by have := BIG_gt; omega) (ends_id ⟨by omega, by omega⟩) (a3.ord o2) (fun i i1 i2 => by rw [ofL_id i ⟨i1, i2⟩]; exact b3 i i1 i2) (fun q => absurd rfl q)
      refine ⟨(if (bestP R (R 0 1) 120 idL (-4, idL)).1 = -4 then -4 else if x = 0 then (bestP R (R 0 1) 120 idL (-4, idL)).1 else ofL (bestP R (R 0 1) 120 idL (-4, idL)).2 (x - 10)), μ1, μ3, ?_, ?_, ?_⟩
      · rw [hC, ww_order_22.eq_1, c2, if_neg z, a1, Option.bind_some, a4.1]
        by_cases w : (bestP R (R 0 1) 120 idL (-4, idL)).1 = -4
        · rw [if_pos w, if_pos w]
        · rw [if_neg w, if_neg w]
          rcases k with k | k
          · rw [if_pos k, if_pos k]
          · rw [if_neg (show ¬ x = 0 by omega), if_neg (show ¬ x = 0 by omega), wI_id (by omega), at_in (by omega), Option.bind_some, a4.2 (x - 10) (by omega) (by omega) w]
      · rw [hM _ e62, mod_order_17.eq_1, e62, if_neg z, b1, Option.bind_some]
        exact d1
      · exact a7.scr ((o2.mono (fun a j z => by unfold Mord at z; unfold Scr; omega)).tr (d2.mono (fun a j z => by unfold Mord at z; unfold Scr; omega)))
  · refine ⟨-1, μ, μ, ?_, ?_, H⟩
    · rw [ww_order.eq_1, if_neg (fun q => k (Or.inl q))]
      have h2 : (ww_less μ x 10).bind (fun u1 => (roa_hasCart 1 μ u1).bind fun u2 => if u2 = 0 then some (-1, μ) else ww_order_22 x μ) = ((ww_less μ x 10).bind (fun u1 => roa_hasCart 1 μ u1)).bind fun u2 => if u2 = 0 then some (-1, μ) else ww_order_22 x μ := by
        cases ww_less μ x 10 <;> rfl
      rw [h2, aC, tF (fun q => k (Or.inr q))]
    · rw [mod_order.eq_1, if_neg (fun q => k (Or.inl q)), askM c5 hx, tF (fun q => k (Or.inr q))]
