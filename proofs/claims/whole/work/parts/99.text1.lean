/-! ===== text: tokens ===== -/
def ltr (x : Int) : Prop := 97 ≤ x ∧ x ≤ 122
def dig (x : Int) : Prop := 48 ≤ x ∧ x ≤ 57
def Tok (B : Int → Int) (n p fr so en va bad : Int) : Prop := (p ≤ fr ∧ fr ≤ n) ∧ (∀ i : Int, p ≤ i → i < fr → B i = 32) ∧ ((fr = n ∧ so = 0 ∧ en = n ∧ bad = 0) ∨ (fr < n ∧ B fr ≠ 32 ∧ ((so = 1 ∧ ltr (B fr) ∧ (fr < en ∧ en ≤ n) ∧ (∀ i : Int, fr ≤ i → i < en → ltr (B i)) ∧ (en < n → ¬ ltr (B en)) ∧ bad = 0) ∨ (so = 2 ∧ dig (B fr) ∧ (fr < en ∧ en ≤ n) ∧ (∀ i : Int, fr ≤ i → i < en → dig (B i)) ∧ (en < n → ¬ dig (B en)) ∧ (en = fr + 1 ∧ va = B fr - 48 ∧ bad = 0 ∨ en = fr + 2 ∧ va = 10 * (B fr - 48) + (B (fr + 1) - 48) ∧ bad = 0 ∨ fr + 2 < en ∧ bad = 1)) ∨ (so = 3 ∧ B fr = 59 ∧ en = fr + 1 ∧ bad = 0) ∨ (so = 4 ∧ ¬ ltr (B fr) ∧ ¬ dig (B fr) ∧ B fr ≠ 59 ∧ en = fr ∧ bad = 1))))
theorem fstNot (P : Int → Prop) : ∀ (m : Nat) (p n : Int), p + m = n → ∃ q, p ≤ q ∧ q ≤ n ∧ (∀ i, p ≤ i → i < q → P i) ∧ (q < n → ¬ P q) := by
  intro m
  induction m with
  | zero => intro p n h; exact ⟨p, by omega, by omega, fun i h1 h2 => by omega, fun h2 => by omega⟩
  | succ m ih =>
    intro p n h
    by_cases z : P p
    · obtain ⟨q, q1, q2, q3, q4⟩ := ih (p + 1) n (by omega)
      refine ⟨q, by omega, q2, fun i h1 h2 => ?_, q4⟩
      by_cases e : i = p
      · rw [e]; exact z
      · exact q3 i (by omega) h2
    · exact ⟨p, by omega, by omega, fun i h1 h2 => by omega, fun _ => z⟩
theorem Tok_ex (B : Int → Int) {n p : Int} (h : 0 ≤ p ∧ p ≤ n) : ∃ fr so en va bad, Tok B n p fr so en va bad := by
  obtain ⟨fr, f1, f2, f3, f4⟩ := fstNot (fun i => B i = 32) (n - p).toNat p n (by omega)
  by_cases z : fr = n
  · exact ⟨fr, 0, n, 0, 0, ⟨f1, f2⟩, f3, Or.inl ⟨z, rfl, rfl, rfl⟩⟩
  · have hf : fr < n := by omega
    by_cases l : ltr (B fr)
    · obtain ⟨en, e1, e2, e3, e4⟩ := fstNot (fun i => ltr (B i)) (n - (fr + 1)).toNat (fr + 1) n (by omega)
      refine ⟨fr, 1, en, 0, 0, ⟨f1, f2⟩, f3, Or.inr ⟨hf, f4 hf, Or.inl ⟨rfl, l, by omega, fun i h1 h2 => ?_, e4, rfl⟩⟩⟩
      by_cases e : i = fr
      · rw [e]; exact l
      · exact e3 i (by omega) h2
    · by_cases d : dig (B fr)
      · obtain ⟨en, e1, e2, e3, e4⟩ := fstNot (fun i => dig (B i)) (n - (fr + 1)).toNat (fr + 1) n (by omega)
        have hd : ∀ i : Int, fr ≤ i → i < en → dig (B i) := fun i h1 h2 => by
          by_cases e : i = fr
          · rw [e]; exact d
          · exact e3 i (by omega) h2
        by_cases y1 : en = fr + 1
        · exact ⟨fr, 2, en, B fr - 48, 0, ⟨f1, f2⟩, f3, Or.inr ⟨hf, f4 hf, Or.inr (Or.inl ⟨rfl, d, by omega, hd, e4, Or.inl ⟨y1, rfl, rfl⟩⟩)⟩⟩
        · by_cases y2 : en = fr + 2
          · exact ⟨fr, 2, en, 10 * (B fr - 48) + (B (fr + 1) - 48), 0, ⟨f1, f2⟩, f3, Or.inr ⟨hf, f4 hf, Or.inr (Or.inl ⟨rfl, d, by omega, hd, e4, Or.inr (Or.inl ⟨y2, rfl, rfl⟩)⟩)⟩⟩
          · exact ⟨fr, 2, en, 0, 1, ⟨f1, f2⟩, f3, Or.inr ⟨hf, f4 hf, Or.inr (Or.inl ⟨rfl, d, by omega, hd, e4, Or.inr (Or.inr ⟨by omega, rfl⟩)⟩)⟩⟩
      · by_cases s : B fr = 59
        · exact ⟨fr, 3, fr + 1, 0, 0, ⟨f1, f2⟩, f3, Or.inr ⟨hf, f4 hf, Or.inr (Or.inr (Or.inl ⟨rfl, s, rfl, rfl⟩))⟩⟩
        · exact ⟨fr, 4, fr, 0, 1, ⟨f1, f2⟩, f3, Or.inr ⟨hf, f4 hf, Or.inr (Or.inr (Or.inr ⟨rfl, l, d, s, rfl, rfl⟩))⟩⟩
/-! ===== the class takes a token ===== -/
def TpC (μ : Mem) (B : Int → Int) (n : Int) : Prop := μ 25 1 = n ∧ (0 ≤ n ∧ n ≤ 400) ∧ ∀ i : Int, 0 ≤ i → i < n → (0 ≤ B i ∧ B i ≤ 255) ∧ μ 26 i.toNat = if B i < 128 then B i else B i - 256
def TpM (ν : Mem) (B : Int → Int) (n : Int) : Prop := ν 61 18 = n ∧ (0 ≤ n ∧ n ≤ 400) ∧ ∀ i : Int, 0 ≤ i → i < n → (0 ≤ B i ∧ B i ≤ 255) ∧ ν 74 i.toNat = B i
def M25 (a j : Nat) : Prop := a = 25 ∧ 3 ≤ j ∧ j ≤ 7
theorem TpC.off {μ μ' : Mem} {B : Int → Int} {n : Int} (h1 : μ' 25 1 = μ 25 1) (h2 : μ' 26 = μ 26) (H : TpC μ B n) : TpC μ' B n := by
  unfold TpC at *; rw [h1, h2]; exact H
theorem TpM.off {μ μ' : Mem} {B : Int → Int} {n : Int} (h1 : μ' 61 18 = μ 61 18) (h2 : μ' 74 = μ 74) (H : TpM μ B n) : TpM μ' B n := by
  unfold TpM at *; rw [h1, h2]; exact H
noncomputable def sq (x : Int) : Int := @ite _ (ltr x) (Classical.propDecidable _) 1 (@ite _ (dig x) (Classical.propDecidable _) 2 (if x = 59 then 3 else 4))
theorem sortAt_in {μ : Mem} {B : Int → Int} {n x : Int} (H : TpC μ B n) (hx : 0 ≤ x ∧ x < n) : rea_sortAt μ x = some (sq (B x)) := by
  obtain ⟨h1, h2, h3⟩ := H
  obtain ⟨b1, b2⟩ := h3 x hx.1 hx.2
  rw [rea_sortAt.eq_1, h1, if_neg (by omega), if_neg (by omega), if_pos (by omega), ld_ok (by omega), Option.bind_some, b2]
  simp only [rea_sortAt_44.eq_1, rea_sortAt_58.eq_1]
  unfold sq ltr dig
  generalize B x = b at b1
  by_cases y : b < 128
  · rw [if_pos y]
    repeat' split
    all_goals first | rfl | omega
  · rw [if_neg y]
    repeat' split
    all_goals first | rfl | omega
theorem sortAt_end {μ : Mem} {B : Int → Int} {n x : Int} (H : TpC μ B n) (hx : x = n) : rea_sortAt μ x = some 0 := by
  obtain ⟨h1, h2, h3⟩ := H
  rw [rea_sortAt.eq_1, h1, if_neg (by omega), if_pos (by omega)]
theorem byteAt_in {μ : Mem} {B : Int → Int} {n x : Int} (H : TpC μ B n) (hx : 0 ≤ x ∧ x < n) : rea_byteAt μ x = some (if B x < 128 then B x else B x - 256) := by
  obtain ⟨h1, h2, h3⟩ := H
  rw [rea_byteAt.eq_1, h1, if_neg (by omega), if_neg (by omega), if_neg (by omega), ld_ok (by omega), Option.bind_some, (h3 x hx.1 hx.2).2]
theorem mset_self {μ : Mem} {a i : Nat} {v : Int} (h : μ a i = v) : mset μ a i v = μ := by
  funext k j
  rw [mset_ap]
  split
  · next q => rw [q.1, q.2, h]
  · rfl
theorem mset_twice {μ : Mem} {a i : Nat} {v w : Int} : mset (mset μ a i v) a i w = mset μ a i w := by
  funext k j
  rw [mset_ap, mset_ap, mset_ap]
  split <;> rfl
theorem take91 {B : Int → Int} {n en so : Int} (K : Mem → Option (Int × Mem)) (he : en ≤ n) (hq : en < n → sq (B en) ≠ so) : ∀ (m f : Nat) (μ : Mem), m < f → TpC μ B n → μ 25 5 = so → 0 ≤ μ 25 7 → μ 25 7 + m = en → (∀ i : Int, μ 25 7 ≤ i → i < en → sq (B i) = so) → rea_takeToken_91 K f μ = K (mset μ 25 7 en) := by
  intro m
  induction m with
  | zero =>
    intro f μ hf H h5 h0 h1 h2
    obtain ⟨f, rfl⟩ : ∃ g, f = g + 1 := ⟨f - 1, by omega⟩
    rw [mset_self (show μ 25 7 = en by omega), rea_takeToken_91.eq_2, H.1]
    by_cases z : n ≤ μ 25 7
    · rw [if_pos z]
    · rw [if_neg z, sortAt_in H (by omega), Option.bind_some, h5, if_neg (by rw [show μ 25 7 = en by omega]; exact hq (by omega))]
  | succ m ih =>
    intro f μ hf H h5 h0 h1 h2
    obtain ⟨f, rfl⟩ : ∃ g, f = g + 1 := ⟨f - 1, by omega⟩
    have hn := H.2.1
    have e7 : mset μ 25 7 (μ 25 7 + 1) 25 7 = μ 25 7 + 1 := mset_same
    rw [rea_takeToken_91.eq_2, H.1, if_neg (by omega), sortAt_in H (by omega), Option.bind_some, h5, if_pos (h2 _ (by omega) (by omega)), bnd.eq_1, wI_id (by omega), ih f (mset μ 25 7 (μ 25 7 + 1)) (by omega) (H.off (mset_ne (by omega)) (mset_off (by omega))) (by rw [mset_ne (by omega)]; exact h5) (by omega) (by omega) (fun i i1 i2 => h2 i (by omega) i2), mset_twice]
theorem take0 {B : Int → Int} {n fr : Int} (he : fr ≤ n) (hq : fr < n → B fr ≠ 32) : ∀ (m f : Nat) (μ : Mem), m < f → TpC μ B n → 0 ≤ μ 25 7 → μ 25 7 + m = fr → (∀ i : Int, μ 25 7 ≤ i → i < fr → B i = 32) → rea_takeToken_0 f μ = rea_takeToken_37 (mset μ 25 7 fr) := by
  intro m
  induction m with
  | zero =>
    intro f μ hf H h0 h1 h2
    obtain ⟨f, rfl⟩ : ∃ g, f = g + 1 := ⟨f - 1, by omega⟩
    rw [mset_self (show μ 25 7 = fr by omega), rea_takeToken_0.eq_2, H.1]
    by_cases z : n ≤ μ 25 7
    · rw [if_pos z]
    · have hb := (H.2.2 (μ 25 7) h0 (by omega)).1
      have hne : B (μ 25 7) ≠ 32 := by rw [show μ 25 7 = fr by omega]; exact hq (by omega)
      rw [if_neg z, byteAt_in H (by omega), Option.bind_some, if_neg (by split <;> omega)]
  | succ m ih =>
    intro f μ hf H h0 h1 h2
    obtain ⟨f, rfl⟩ : ∃ g, f = g + 1 := ⟨f - 1, by omega⟩
    have hn := H.2.1
    have e7 : mset μ 25 7 (μ 25 7 + 1) 25 7 = μ 25 7 + 1 := mset_same
    have hb : B (μ 25 7) = 32 := h2 _ (by omega) (by omega)
    rw [rea_takeToken_0.eq_2, H.1, if_neg (by omega), byteAt_in H (by omega), Option.bind_some, if_pos (by rw [hb]; omega), bnd.eq_1, wI_id (by omega), ih f (mset μ 25 7 (μ 25 7 + 1)) (by omega) (H.off (mset_ne (by omega)) (mset_off (by omega))) (by omega) (by omega) (fun i i1 i2 => h2 i (by omega) i2), mset_twice]
theorem sq1 {x : Int} (h : ltr x) : sq x = 1 := if_pos h
theorem sq2 {x : Int} (h : dig x) : sq x = 2 := by
  unfold sq
  rw [if_neg (fun q => by unfold ltr at q; unfold dig at h; omega), if_pos h]
theorem sq3 {x : Int} (h : x = 59) : sq x = 3 := by
  unfold sq
  rw [if_neg (fun q => by unfold ltr at q; omega), if_neg (fun q => by unfold dig at q; omega), if_pos h]
theorem sq4 {x : Int} (h1 : ¬ ltr x) (h2 : ¬ dig x) (h3 : x ≠ 59) : sq x = 4 := by
  unfold sq
  rw [if_neg h1, if_neg h2, if_neg h3]
theorem sq1n {x : Int} (h : ¬ ltr x) : sq x ≠ 1 := by
  unfold sq
  rw [if_neg h]
  repeat' split
  all_goals omega
theorem sq2n {x : Int} (h : ¬ dig x) : sq x ≠ 2 := by
  unfold sq
  rw [if_neg h]
  repeat' split
  all_goals omega
theorem ctake {μ : Mem} {B : Int → Int} {n p fr so en va bad : Int} (H : TpC μ B n) (hp : μ 25 7 = p) (h0 : 0 ≤ p) (hT : Tok B n p fr so en va bad) : ∃ μ', rea_takeToken μ = some (1 - bad, μ') ∧ Off M25 μ μ' ∧ μ' 25 6 = fr ∧ μ' 25 5 = so ∧ μ' 25 7 = en ∧ (bad = 0 → μ' 25 3 = μ 25 3) ∧ (bad = 1 → μ' 25 3 = 1 ∧ μ' 25 4 = fr) := by
  have hB := BIG_gt
  obtain ⟨⟨t1, t2⟩, t3, t4⟩ := hT
  have hn := H.2.1
  have hq : fr < n → B fr ≠ 32 := fun q => by
    rcases t4 with z | z
    · omega
    · exact z.2.1
  have e0 := take0 t2 hq (fr - p).toNat BIG μ (by omega) H (by omega) (by omega) (by rw [hp]; exact t3)
  have H2 : TpC (mset (mset μ 25 7 fr) 25 6 fr) B n := H.off (by rw [mset_ne (by omega), mset_ne (by omega)]) (by rw [mset_off (by omega), mset_off (by omega)])
  have e7 : mset (mset μ 25 7 fr) 25 6 fr 25 7 = fr := by rw [mset_ne (by omega), mset_same]
  have e37 : ∀ s : Int, rea_sortAt (mset (mset μ 25 7 fr) 25 6 fr) fr = some s → rea_takeToken_37 (mset μ 25 7 fr) = if s = 3 then rea_takeToken_75 (mset (mset (mset (mset μ 25 7 fr) 25 6 fr) 25 5 s) 25 7 (fr + 1)) else rea_takeToken_75 (mset (mset (mset μ 25 7 fr) 25 6 fr) 25 5 s) := fun s hs => by
    rw [rea_takeToken_37.eq_1, bnd.eq_1, mset_same, e7, hs, Option.bind_some, bnd.eq_1, mset_same, bnd.eq_1, mset_ne (k' := 25) (i' := 7) (i := 5) (by omega), e7, wI_id (by omega)]
  have o3 : ∀ s : Int, Off M25 μ (mset (mset (mset μ 25 7 fr) 25 6 fr) 25 5 s) := fun s => ((Off.rf.set (by unfold M25; omega)).set (by unfold M25; omega)).set (by unfold M25; omega)
  have c5 : ∀ s : Int, mset (mset (mset μ 25 7 fr) 25 6 fr) 25 5 s 25 5 = s := fun s => mset_same
  have c6 : ∀ s : Int, mset (mset (mset μ 25 7 fr) 25 6 fr) 25 5 s 25 6 = fr := fun s => by rw [mset_ne (by omega), mset_same]
  have c7 : ∀ s : Int, mset (mset (mset μ 25 7 fr) 25 6 fr) 25 5 s 25 7 = fr := fun s => by rw [mset_ne (by omega), e7]
  have c3 : ∀ s : Int, mset (mset (mset μ 25 7 fr) 25 6 fr) 25 5 s 25 3 = μ 25 3 := fun s => by rw [mset_ne (by omega), mset_ne (by omega), mset_ne (by omega)]
  have Hs : ∀ s : Int, TpC (mset (mset (mset μ 25 7 fr) 25 6 fr) 25 5 s) B n := fun s => H2.off (mset_ne (by omega)) (mset_off (by omega))
  have ref : ∀ ν : Mem, ν 25 6 = fr → rea_takeToken_164 0 ν = some (0, mset (mset ν 25 3 1) 25 4 fr) := fun ν h6 => by
    rw [rea_takeToken_164.eq_1, if_pos rfl, h6]
    rfl
  have r1 : ∀ ν : Mem, rea_takeToken_164 1 ν = some (1, ν) := fun ν => by rw [rea_takeToken_164.eq_1, if_neg (by omega)]
  rw [rea_takeToken.eq_1, e0]
  rcases t4 with ⟨z1, z2, z3, z4⟩ | ⟨z1, z2, z⟩
  · refine ⟨_, ?_, o3 0, c6 0, by rw [c5, z2], by rw [c7]; omega, fun _ => c3 0, fun q => by omega⟩
    rw [e37 0 (sortAt_end H2 z1), if_neg (by omega), rea_takeToken_75.eq_1, c5, if_neg (by omega), if_neg (by omega), rea_takeToken_130.eq_1, c5, if_neg (by omega), if_neg (by omega), rea_takeToken_164.eq_1, if_neg (by omega), z4]
    rfl
  · have hs := sortAt_in H2 (x := fr) ⟨by omega, z1⟩
    rcases z with ⟨a1, a2, a3, a4, a5, a6⟩ | ⟨a1, a2, a3, a4, a5, a6⟩ | ⟨a1, a2, a3, a4⟩ | ⟨a1, a2, a3, a4, a5, a6⟩
    · rw [sq1 a2] at hs
      have e := take91 (so := 1) rea_takeToken_130 a3.2 (fun q => sq1n (a5 q)) (en - fr).toNat BIG _ (by omega) (Hs 1) (c5 1) (by rw [c7]; omega) (by rw [c7]; omega) (fun i i1 i2 => by rw [c7] at i1; exact sq1 (a4 i i1 i2))
      refine ⟨_, ?_, (o3 1).set (k := 25) (i := 7) (v := en) (by unfold M25; omega), by rw [mset_ne (by omega), c6], by rw [mset_ne (by omega), c5, a1], mset_same, fun _ => by rw [mset_ne (by omega), c3], fun q => by omega⟩
      rw [e37 1 hs, if_neg (by omega), rea_takeToken_75.eq_1, c5, if_pos rfl, e, rea_takeToken_130.eq_1, mset_ne (k' := 25) (i' := 5) (i := 7) (by omega), c5, if_neg (by omega), if_neg (by omega), rea_takeToken_164.eq_1, if_neg (by omega), a6]
      rfl
    · rw [sq2 a2] at hs
      have e := take91 (so := 2) rea_takeToken_130 a3.2 (fun q => sq2n (a5 q)) (en - fr).toNat BIG _ (by omega) (Hs 2) (c5 2) (by rw [c7]; omega) (by rw [c7]; omega) (fun i i1 i2 => by rw [c7] at i1; exact sq2 (a4 i i1 i2))
      have e' : rea_takeToken_37 (mset μ 25 7 fr) = if 2 < en - fr then some (0, mset (mset (mset (mset (mset (mset μ 25 7 fr) 25 6 fr) 25 5 2) 25 7 en) 25 3 1) 25 4 fr) else some (1, mset (mset (mset (mset μ 25 7 fr) 25 6 fr) 25 5 2) 25 7 en) := by
        rw [e37 2 hs, if_neg (by omega), rea_takeToken_75.eq_1, c5, if_neg (by omega), if_pos rfl, e, rea_takeToken_130.eq_1, mset_ne (k' := 25) (i' := 5) (i := 7) (by omega), c5, if_neg (by omega), if_pos rfl, mset_same, mset_ne (k' := 25) (i' := 6) (i := 7) (by omega), c6, wI_id (by omega), ref _ (by rw [mset_ne (by omega), c6]), r1]
      by_cases y : 2 < en - fr
      · have hbad : bad = 1 := by omega
        rw [if_pos y] at e'
        refine ⟨_, by rw [e', hbad]; rfl, (((o3 2).set (k := 25) (i := 7) (v := en) (by unfold M25; omega)).set (by unfold M25; omega)).set (by unfold M25; omega), ?_, ?_, ?_, fun q => by omega, fun _ => ⟨?_, mset_same⟩⟩
        · rw [mset_ne (by omega), mset_ne (by omega), mset_ne (by omega), c6]
        · rw [mset_ne (by omega), mset_ne (by omega), mset_ne (by omega), c5, a1]
        · rw [mset_ne (by omega), mset_ne (by omega), mset_same]
        · rw [mset_ne (by omega), mset_same]
      · have hbad : bad = 0 := by omega
        rw [if_neg y] at e'
        exact ⟨_, by rw [e', hbad]; rfl, (o3 2).set (k := 25) (i := 7) (v := en) (by unfold M25; omega), by rw [mset_ne (by omega), c6], by rw [mset_ne (by omega), c5, a1], mset_same, fun _ => by rw [mset_ne (by omega), c3], fun q => by omega⟩
    · rw [sq3 a2] at hs
      refine ⟨_, ?_, (o3 3).set (k := 25) (i := 7) (v := fr + 1) (by unfold M25; omega), by rw [mset_ne (by omega), c6], by rw [mset_ne (by omega), c5, a1], by rw [mset_same, a3], fun _ => by rw [mset_ne (by omega), c3], fun q => by omega⟩
      rw [e37 3 hs, if_pos rfl, rea_takeToken_75.eq_1, mset_ne (k' := 25) (i' := 5) (i := 7) (by omega), c5, if_neg (by omega), if_neg (by omega), rea_takeToken_130.eq_1, mset_ne (k' := 25) (i' := 5) (i := 7) (by omega), c5, if_neg (by omega), if_neg (by omega), rea_takeToken_164.eq_1, if_neg (by omega), a4]
      rfl
    · rw [sq4 a2 a3 a4] at hs
      refine ⟨_, ?_, ((o3 4).set (k := 25) (i := 3) (v := 1) (by unfold M25; omega)).set (k := 25) (i := 4) (v := fr) (by unfold M25; omega), ?_, ?_, ?_, fun q => by omega, fun _ => ⟨?_, mset_same⟩⟩
      · rw [e37 4 hs, if_neg (by omega), rea_takeToken_75.eq_1, c5, if_neg (by omega), if_neg (by omega), rea_takeToken_130.eq_1, c5, if_pos rfl, ref _ (c6 4), a6]
        rfl
      · rw [mset_ne (by omega), mset_ne (by omega), c6]
      · rw [mset_ne (by omega), mset_ne (by omega), c5, a1]
      · rw [mset_ne (by omega), mset_ne (by omega), c7, a5]
      · rw [mset_ne (by omega), mset_same]
