/-! ===== the reference reads a token ahead ===== -/
def M61 (a j : Nat) : Prop := a = 61 ∧ 19 ≤ j ∧ j ≤ 24
theorem look_in {ν : Mem} {B : Int → Int} {n x : Int} (H : TpM ν B n) (hx : 0 ≤ x ∧ x < n) : mod_look ν x = some (B x) := by
  obtain ⟨h1, h2, h3⟩ := H
  rw [mod_look.eq_1, h1, if_neg (by omega), ld_ok (by omega), Option.bind_some, (h3 x hx.1 hx.2).2]
theorem look_out {ν : Mem} {B : Int → Int} {n x : Int} (H : TpM ν B n) (hx : n ≤ x) : mod_look ν x = some (-1) := by
  rw [mod_look.eq_1, H.1, if_pos hx]
theorem needs1 (k : Int) (ν : Mem) : mod_needs 1 k ν = some ν := by
  unfold mod_needs
  rw [if_neg (by omega)]
theorem needs0 {k : Int} {ν : Mem} (h : ν 61 23 = 0) : mod_needs 0 k ν = some (mset (mset ν 61 23 k) 61 24 (ν 61 20)) := by
  unfold mod_needs
  rw [if_pos rfl, if_pos h, bnd.eq_1, bnd.eq_1, mset_ne (k' := 61) (i' := 20) (by omega)]
theorem next82 {B : Int → Int} {n en : Int} (he : en ≤ n) (hq : en < n → ¬ ltr (B en)) : ∀ (m f : Nat) (ν : Mem), m < f → TpM ν B n → 0 ≤ ν 61 19 → ν 61 19 + m = en → (∀ i : Int, ν 61 19 ≤ i → i < en → ltr (B i)) → mod_next_82 f ν = some (mset ν 61 19 en) := by
  intro m
  induction m with
  | zero =>
    intro f ν hf H h0 h1 h2
    obtain ⟨f, rfl⟩ : ∃ g, f = g + 1 := ⟨f - 1, by omega⟩
    rw [mset_self (show ν 61 19 = en by omega), mod_next_82.eq_2]
    by_cases z : n ≤ ν 61 19
    · rw [look_out H z, Option.bind_some, in_eq, tF (by omega)]
    · have e : ν 61 19 = en := by omega
      rw [look_in H (by omega), Option.bind_some, in_eq, tF (fun q => hq (by omega) (by rw [← e]; exact q))]
  | succ m ih =>
    intro f ν hf H h0 h1 h2
    obtain ⟨f, rfl⟩ : ∃ g, f = g + 1 := ⟨f - 1, by omega⟩
    have hn := H.2.1
    have e7 : mset ν 61 19 (ν 61 19 + 1) 61 19 = ν 61 19 + 1 := mset_same
    rw [mod_next_82.eq_2, look_in H (by omega), Option.bind_some, in_eq, tT (show 97 ≤ B (ν 61 19) ∧ B (ν 61 19) ≤ 122 from h2 _ (by omega) (by omega)), bnd.eq_1, wI_id (by omega), ih f (mset ν 61 19 (ν 61 19 + 1)) (by omega) (H.off (mset_ne (by omega)) (mset_off (by omega))) (by omega) (by omega) (fun i i1 i2 => h2 i (by omega) i2), mset_twice]
def dvT (B : Int → Int) (fr q : Int) : Int := if q ≤ fr then 0 else if q = fr + 1 then B fr - 48 else 10 * (B fr - 48) + (B (fr + 1) - 48)
theorem next140 {B : Int → Int} {n fr en : Int} (h00 : 0 ≤ fr) (he : en ≤ n) (hq : en < n → ¬ dig (B en)) (hd : ∀ i : Int, fr ≤ i → i < en → dig (B i)) : ∀ (m f : Nat) (ν : Mem), m < f → TpM ν B n → fr ≤ ν 61 19 → ν 61 19 + m = en → ν 61 20 = fr → ν 61 23 = 0 → ν 61 22 = dvT B fr (ν 61 19) → ∃ ν', mod_next_140 f ν = some ν' ∧ Off M61 ν ν' ∧ ν' 61 20 = fr ∧ ν' 61 21 = ν 61 21 ∧ (2 < en - fr → ν' 61 23 = 1 ∧ ν' 61 24 = fr) ∧ (en - fr ≤ 2 → ν' 61 23 = 0 ∧ ν' 61 19 = en ∧ ν' 61 22 = dvT B fr en) := by
  intro m
  induction m with
  | zero =>
    intro f ν hf H h0 h1 h2 h3 h4
    obtain ⟨f, rfl⟩ : ∃ g, f = g + 1 := ⟨f - 1, by omega⟩
    have hn := H.2.1
    have e : ν 61 19 = en := by omega
    have hl : mod_next_140 (f + 1) ν = if 2 < en - fr then mod_next_236 0 ν else mod_next_236 1 ν := by
      rw [mod_next_140.eq_2]
      by_cases z : n ≤ ν 61 19
      · rw [look_out H z, Option.bind_some, in_eq, tF (by omega), h2, wI_id (by omega), e]
      · rw [look_in H (by omega), Option.bind_some, in_eq, tF (fun q => hq (by omega) (by rw [← e]; exact q)), h2, wI_id (by omega), e]
    rw [hl]
    by_cases y : 2 < en - fr
    · rw [if_pos y, mod_next_236.eq_1, needs0 h3, Option.bind_some, h2]
      exact ⟨_, rfl, (Off.rf.set (by unfold M61; omega)).set (by unfold M61; omega), by rw [mset_ne (by omega), mset_ne (by omega)]; exact h2, by rw [mset_ne (by omega), mset_ne (by omega)], fun _ => ⟨by rw [mset_ne (by omega), mset_same], mset_same⟩, fun q => by omega⟩
    · rw [if_neg y, mod_next_236.eq_1, needs1, Option.bind_some]
      exact ⟨ν, rfl, Off.rf, h2, rfl, fun q => absurd q y, fun _ => ⟨h3, e, by rw [h4, e]⟩⟩
  | succ m ih =>
    intro f ν hf H h0 h1 h2 h3 h4
    obtain ⟨f, rfl⟩ : ∃ g, f = g + 1 := ⟨f - 1, by omega⟩
    have hn := H.2.1
    have hdd := hd _ h0 (by omega)
    have nx : ∀ v : Int, v = dvT B fr (ν 61 19 + 1) → ∃ ν', mod_next_201 (mod_next_140 f) v ν = some ν' ∧ Off M61 ν ν' ∧ ν' 61 20 = fr ∧ ν' 61 21 = ν 61 21 ∧ (2 < en - fr → ν' 61 23 = 1 ∧ ν' 61 24 = fr) ∧ (en - fr ≤ 2 → ν' 61 23 = 0 ∧ ν' 61 19 = en ∧ ν' 61 22 = dvT B fr en) := fun v hv => by
      have o : Off M61 ν (mset (mset ν 61 22 v) 61 19 (ν 61 19 + 1)) := (Off.rf.set (by unfold M61; omega)).set (by unfold M61; omega)
      have e7 : mset (mset ν 61 22 v) 61 19 (ν 61 19 + 1) 61 19 = ν 61 19 + 1 := mset_same
      obtain ⟨ν', k1, k2, k3, k4, k5, k6⟩ := ih f (mset (mset ν 61 22 v) 61 19 (ν 61 19 + 1)) (by omega) (H.off (o _ _ (by unfold M61; omega)) (o.cell (fun j => by unfold M61; omega))) (by omega) (by omega) (by rw [mset_ne (by omega), mset_ne (by omega)]; exact h2) (by rw [mset_ne (by omega), mset_ne (by omega)]; exact h3) (by rw [e7, mset_ne (by omega), mset_same]; exact hv)
      refine ⟨ν', ?_, o.tr k2, k3, k4.trans (by rw [mset_ne (by omega), mset_ne (by omega)]), k5, k6⟩
      rw [mod_next_201.eq_1, bnd.eq_1, bnd.eq_1, mset_ne (k' := 61) (i' := 19) (i := 22) (by omega), wI_id (by omega)]
      exact k1
    rw [mod_next_140.eq_2, look_in H (by omega), Option.bind_some, in_eq, tT (show 48 ≤ B (ν 61 19) ∧ B (ν 61 19) ≤ 57 from hdd), h2, wI_id (x := ν 61 19 - fr) (by omega)]
    by_cases y : 2 ≤ ν 61 19 - fr
    · rw [if_pos y]
      refine nx _ ?_
      rw [h4]
      unfold dvT
      rw [if_neg (by omega), if_neg (by omega), if_neg (by omega), if_neg (by omega)]
    · have hv : 0 ≤ ν 61 22 ∧ ν 61 22 ≤ 9 := by
        rw [h4]
        unfold dvT
        by_cases z : ν 61 19 ≤ fr
        · rw [if_pos z]; omega
        · rw [if_neg z, if_pos (by omega)]
          have := hd fr (by omega) (by omega)
          unfold dig at this; omega
      rw [if_neg y, Option.bind_some]
      unfold dig at hdd
      rw [wI_id (x := 10 * ν 61 22) (by omega), wI_id (x := 10 * ν 61 22 + B (ν 61 19)) (by omega), wI_id (by omega)]
      refine nx _ ?_
      rw [h4]
      unfold dvT
      by_cases z : ν 61 19 = fr
      · rw [if_pos (by omega), if_neg (by omega), if_pos (by omega), z]; omega
      · rw [if_neg (by omega), if_pos (by omega), if_neg (by omega), if_neg (by omega), show ν 61 19 = fr + 1 by omega]; omega
def Nxt (ν : Mem) (fr so en va bad : Int) : Prop := ν 61 20 = fr ∧ (bad = 0 → ν 61 23 = 0 ∧ ν 61 21 = so ∧ ν 61 19 = en ∧ (so = 2 → ν 61 22 = va)) ∧ (bad = 1 → ν 61 23 = 1 ∧ ν 61 24 = fr)
theorem next8 {B : Int → Int} {n p fr so en va bad : Int} (h00 : 0 ≤ p) (hT : Tok B n p fr so en va bad) : ∀ (m f : Nat) (ν : Mem), m < f → TpM ν B n → p ≤ ν 61 19 → ν 61 19 + m = fr → ν 61 23 = 0 → ∃ ν', mod_next_8 f ν = some ν' ∧ Off M61 ν ν' ∧ Nxt ν' fr so en va bad := by
  have hB := BIG_gt
  obtain ⟨⟨t1, t2⟩, t3, t4⟩ := hT
  intro m
  induction m with
  | zero =>
    intro f ν hf H h0 h1 h3
    obtain ⟨f, rfl⟩ : ∃ g, f = g + 1 := ⟨f - 1, by omega⟩
    have hn := H.2.1
    have e : ν 61 19 = fr := by omega
    have o1 : Off M61 ν (mset ν 61 20 fr) := Off.rf.set (by unfold M61; omega)
    have H1 : TpM (mset ν 61 20 fr) B n := H.off (o1 _ _ (by unfold M61; omega)) (o1.cell (fun j => by unfold M61; omega))
    have e19 : mset ν 61 20 fr 61 19 = fr := by rw [mset_ne (by omega)]; exact e
    rw [mod_next_8.eq_2, e]
    rcases t4 with ⟨z1, z2, z3, z4⟩ | ⟨z1, z2, z⟩
    · refine ⟨mset (mset ν 61 20 fr) 61 21 0, ?_, o1.set (by unfold M61; omega), by rw [mset_ne (by omega), mset_same], fun _ => ⟨?_, ?_, ?_, fun q => by omega⟩, fun q => by omega⟩
      · rw [look_out H (by omega), Option.bind_some, if_neg (by omega), bnd.eq_1, e19, look_out H1 (by omega), Option.bind_some, if_neg (by omega), bnd.eq_1]
      · rw [mset_ne (by omega), mset_ne (by omega)]; exact h3
      · rw [mset_same, z2]
      · rw [mset_ne (by omega), e19]; omega
    · have hb := (H.2.2 fr (by omega) z1).1
      rw [look_in H (by omega), Option.bind_some, if_neg z2, bnd.eq_1, e19, look_in H1 (by omega), Option.bind_some, if_pos hb.1, in_eq]
      rcases z with ⟨a1, a2, a3, a4, a5, a6⟩ | ⟨a1, a2, a3, a4, a5, a6⟩ | ⟨a1, a2, a3, a4⟩ | ⟨a1, a2, a3, a4, a5, a6⟩
      · have o2 : Off M61 ν (mset (mset ν 61 20 fr) 61 21 1) := o1.set (by unfold M61; omega)
        have e2 : mset (mset ν 61 20 fr) 61 21 1 61 19 = fr := by rw [mset_ne (by omega)]; exact e19
        rw [tT (show 97 ≤ B fr ∧ B fr ≤ 122 from a2), bnd.eq_1, next82 a3.2 a5 (en - fr).toNat BIG _ (by omega) (H.off (o2 _ _ (by unfold M61; omega)) (o2.cell (fun j => by unfold M61; omega))) (by omega) (by omega) (fun i i1 i2 => a4 i (by omega) i2)]
        refine ⟨_, rfl, o2.set (by unfold M61; omega), ?_, fun _ => ⟨?_, ?_, mset_same, fun q => by omega⟩, fun q => by omega⟩
        · rw [mset_ne (by omega), mset_ne (by omega), mset_same]
        · rw [mset_ne (by omega), mset_ne (by omega), mset_ne (by omega)]; exact h3
        · rw [mset_ne (by omega), mset_same, a1]
      · have nl : ¬ (97 ≤ B fr ∧ B fr ≤ 122) := fun q => by unfold dig at a2; omega
        have o3 : Off M61 ν (mset (mset (mset ν 61 20 fr) 61 21 2) 61 22 0) := (o1.set (by unfold M61; omega)).set (by unfold M61; omega)
        have e3 : mset (mset (mset ν 61 20 fr) 61 21 2) 61 22 0 61 19 = fr := by rw [mset_ne (by omega), mset_ne (by omega)]; exact e19
        obtain ⟨ν', k1, k2, k3, k4, k5, k6⟩ := next140 (by omega) a3.2 a5 a4 (en - fr).toNat BIG (mset (mset (mset ν 61 20 fr) 61 21 2) 61 22 0) (by omega) (H.off (o3 _ _ (by unfold M61; omega)) (o3.cell (fun j => by unfold M61; omega))) (by omega) (by omega) (by rw [mset_ne (by omega), mset_ne (by omega), mset_same]) (by rw [mset_ne (by omega), mset_ne (by omega), mset_ne (by omega)]; exact h3) (by rw [e3, mset_same]; unfold dvT; rw [if_pos (by omega)])
        rw [tF nl, in_eq, tT (show 48 ≤ B fr ∧ B fr ≤ 57 from a2), bnd.eq_1, bnd.eq_1]
        refine ⟨ν', k1, o3.tr k2, k3, fun q => ?_, fun q => k5 (by omega)⟩
        have k7 := k6 (by omega)
        refine ⟨k7.1, ?_, k7.2.1, fun _ => ?_⟩
        · rw [k4, mset_ne (by omega), mset_same, a1]
        · rw [k7.2.2]
          unfold dvT
          rcases a6 with y | y | y
          · rw [if_neg (by omega), if_pos y.1, y.2.1]
          · rw [if_neg (by omega), if_neg (by omega), y.2.1]
          · omega
      · have nl : ¬ (97 ≤ B fr ∧ B fr ≤ 122) := by omega
        have nd : ¬ (48 ≤ B fr ∧ B fr ≤ 57) := by omega
        rw [tF nl, in_eq, tF nd, bnd.eq_1, if_pos a2, mod_next_260.eq_1, needs1, Option.bind_some, bnd.eq_1, mset_ne (k' := 61) (i' := 19) (i := 21) (by omega), e19, wI_id (by omega)]
        refine ⟨_, rfl, (o1.set (by unfold M61; omega)).set (by unfold M61; omega), ?_, fun _ => ⟨?_, ?_, by rw [mset_same, a3], fun q => by omega⟩, fun q => by omega⟩
        · rw [mset_ne (by omega), mset_ne (by omega), mset_same]
        · rw [mset_ne (by omega), mset_ne (by omega), mset_ne (by omega)]; exact h3
        · rw [mset_ne (by omega), mset_same, a1]
      · have e23 : mset (mset ν 61 20 fr) 61 21 3 61 23 = 0 := by rw [mset_ne (by omega), mset_ne (by omega)]; exact h3
        rw [tF (show ¬ (97 ≤ B fr ∧ B fr ≤ 122) from a2), in_eq, tF (show ¬ (48 ≤ B fr ∧ B fr ≤ 57) from a3), bnd.eq_1, if_neg a4, mod_next_260.eq_1, needs0 e23, Option.bind_some, bnd.eq_1]
        refine ⟨_, rfl, (((o1.set (by unfold M61; omega)).set (by unfold M61; omega)).set (by unfold M61; omega)).set (by unfold M61; omega), ?_, fun q => by omega, fun _ => ⟨?_, ?_⟩⟩
        · rw [mset_ne (by omega), mset_ne (by omega), mset_ne (by omega), mset_ne (by omega), mset_same]
        · rw [mset_ne (by omega), mset_ne (by omega), mset_same]
        · rw [mset_ne (by omega), mset_same, mset_ne (by omega), mset_same]
  | succ m ih =>
    intro f ν hf H h0 h1 h3
    obtain ⟨f, rfl⟩ : ∃ g, f = g + 1 := ⟨f - 1, by omega⟩
    have hn := H.2.1
    have o : Off M61 ν (mset ν 61 19 (ν 61 19 + 1)) := Off.rf.set (by unfold M61; omega)
    have e7 : mset ν 61 19 (ν 61 19 + 1) 61 19 = ν 61 19 + 1 := mset_same
    obtain ⟨ν', k1, k2, k3⟩ := ih f (mset ν 61 19 (ν 61 19 + 1)) (by omega) (H.off (o _ _ (by unfold M61; omega)) (o.cell (fun j => by unfold M61; omega))) (by omega) (by omega) (by rw [mset_ne (by omega)]; exact h3)
    refine ⟨ν', ?_, o.tr k2, k3⟩
    rw [mod_next_8.eq_2, look_in H (by omega), Option.bind_some, if_pos (t3 _ h0 (by omega)), bnd.eq_1, wI_id (by omega), k1]
theorem mnext {ν : Mem} {B : Int → Int} {n p fr so en va bad : Int} (H : TpM ν B n) (hp : ν 61 19 = p) (h0 : 0 ≤ p) (h3 : ν 61 23 = 0) (hT : Tok B n p fr so en va bad) : ∃ ν', mod_next ν = some ν' ∧ Off M61 ν ν' ∧ Nxt ν' fr so en va bad := by
  have hB := BIG_gt
  have hn := H.2.1
  have t := hT.1
  rw [mod_next.eq_1, if_pos (by omega)]
  exact next8 h0 hT (fr - p).toNat BIG ν (by omega) H (by omega) (by omega) h3
theorem mnext_sick {ν : Mem} (h : 0 < ν 61 23) : mod_next ν = some ν := by
  rw [mod_next.eq_1, if_neg (by omega)]
theorem needs_sick {s k : Int} {ν : Mem} (h : 0 < ν 61 23) : mod_needs s k ν = some ν := by
  unfold mod_needs
  split
  · rw [if_neg (by omega)]
  · rfl
