/-! ===== what holds between two calls ===== -/
def Iroad (μ : Mem) : Prop := RC μ 1 (mR μ 0) ∧ Ok (mR μ 0)
def Iimg (μ : Mem) : Prop := (μ 63 0 = 0 ∨ μ 63 0 = 1) ∧ (μ 63 1 = 0 ∨ μ 63 1 = 1) ∧ μ 0 10 = μ 63 0 + 2 * μ 63 1 ∧ (μ 63 0 = 1 → RC μ 9 (mR μ 185) ∧ Ok (mR μ 185)) ∧ (μ 63 1 = 1 → RC μ 17 (mR μ 370) ∧ Ok (mR μ 370))
def Itape (μ : Mem) : Prop := (0 ≤ μ 61 18 ∧ μ 61 18 ≤ 400) ∧ μ 25 1 = μ 61 18 ∧ ∀ i : Int, 0 ≤ i → i < μ 61 18 → (0 ≤ μ 74 i.toNat ∧ μ 74 i.toNat ≤ 255) ∧ μ 26 i.toNat = if μ 74 i.toNat < 128 then μ 74 i.toNat else μ 74 i.toNat - 256
def Isheet (μ : Mem) : Prop := ∀ k : Int, 0 ≤ k → k < 4 → (μ 60 k.toNat = -4 ∧ μ 85 k.toNat = -4) ∨ ((0 ≤ μ 60 k.toNat ∧ μ 60 k.toNat ≤ 40) ∧ μ 86 k.toNat = μ 60 k.toNat ∧ μ 59 k.toNat = μ 85 k.toNat ∧ (0 ≤ μ 85 k.toNat ∧ μ 85 k.toNat ≤ 2) ∧ ∀ i : Int, 0 ≤ i → i < μ 60 k.toNat → μ 58 (40 * k + i).toNat = μ 87 (40 * k + i).toNat)
def Ifault (μ : Mem) : Prop := μ 25 3 = μ 61 23
def Itorn (μ : Mem) : Prop := μ 57 3 = μ 61 39
def OrdC (R : Rd) (μ : Mem) : Prop := μ 46 6 = (bestP R (R 0 1) 120 idL (-4, idL)).1 ∧ ∀ i : Int, 0 ≤ i → i < R 0 1 → (bestP R (R 0 1) 120 idL (-4, idL)).1 ≠ -4 → μ 50 i.toNat = ofL (bestP R (R 0 1) 120 idL (-4, idL)).2 i
def MendC (R : Rd) (μ : Mem) : Prop := mendP R = (μ 46 7, μ 46 8, μ 46 9)
/-- what a run sees of the reference's road -/
def MCr (μ : Mem) (R : Rd) : Prop := (μ 61 2 = R 0 0 ∧ μ 62 0 = R 0 1) ∧ (∀ i : Int, 0 ≤ i → i < 21 → μ 65 i.toNat = R 1 i) ∧ (∀ i : Int, 0 ≤ i → i < 21 → μ 64 i.toNat = R 3 i) ∧ (∀ i : Int, 0 ≤ i → i < 63 → μ 67 i.toNat = R 4 i) ∧ (∀ i : Int, 0 ≤ i → i < 63 → μ 62 (36 + i.toNat) = R 5 i) ∧ (∀ i : Int, 0 ≤ i → i < 35 → μ 62 (1 + i.toNat) = R 6 i) ∧ (∀ i : Int, 0 ≤ i → i < 61 → μ 62 (99 + i.toNat) = R 8 i)
/-- a run's bounds -/
def Okr (R : Rd) : Prop := (2 ≤ R 0 0 ∧ R 0 0 ≤ 20 ∧ 0 ≤ R 0 1 ∧ R 0 1 ≤ 5) ∧ (∀ i : Int, 0 ≤ i → i < 21 → R 1 i = -4 ∨ 0 ≤ R 1 i ∧ R 1 i ≤ 2) ∧ (∀ i : Int, 0 ≤ i → i < 21 → R 3 i = 0 ∨ R 3 i = 1) ∧ (∀ i : Int, 0 ≤ i → i < 63 → 0 ≤ R 4 i ∧ R 4 i ≤ 9) ∧ (∀ i : Int, 0 ≤ i → i < 63 → 0 ≤ R 5 i ∧ R 5 i ≤ 99) ∧ (∀ c : Int, 0 ≤ c → c < R 0 1 → (0 ≤ pt R c 0 ∧ pt R c 0 ≤ 4) ∧ (0 ≤ pt R c 1 ∧ pt R c 1 ≤ 2) ∧ (1 ≤ pt R c 2 ∧ pt R c 2 ≤ 9) ∧ (0 ≤ pt R c 3 ∧ pt R c 3 ≤ 30) ∧ (0 ≤ pt R c 4 ∧ pt R c 4 ≤ R 0 0) ∧ (0 ≤ pt R c 5 ∧ pt R c 5 ≤ R 0 0) ∧ pt R c 4 ≠ pt R c 5 ∧ (0 ≤ pt R c 6 ∧ pt R c 6 ≤ 20)) ∧ (∀ i : Int, 0 ≤ i → i < 61 → R 8 i = 0 ∨ R 8 i = 1)
theorem MCr_mR (μ : Mem) : MCr μ (mR μ 0) := by
  refine ⟨⟨rfl, rfl⟩, fun _ _ _ => rfl, fun _ _ _ => rfl, fun _ _ _ => rfl, fun i _ _ => ?_, fun i _ _ => ?_, fun i _ _ => ?_⟩
  · show μ 62 (36 + i.toNat) = μ 62 (0 + 36 + i.toNat); rw [Nat.zero_add]
  · show μ 62 (1 + i.toNat) = μ 62 (0 + 1 + i.toNat); rw [Nat.zero_add]
  · show μ 62 (99 + i.toNat) = μ 62 (0 + 99 + i.toNat); rw [Nat.zero_add]
theorem Ok.r {R : Rd} (h : Ok R) : Okr R := by
  obtain ⟨⟨a1, a2, a3, a4, a5, a6⟩, b, c, d, e, f, g, h7, h8, h9⟩ := h
  exact ⟨⟨a1, a2, a3, a4⟩, b, d, e, f, g, h8⟩
theorem MCr.off {μ μ' : Mem} {R : Rd} (h : μ' 61 2 = μ 61 2) (h2 : ∀ j, j < 160 → μ' 62 j = μ 62 j) (h4 : μ' 64 = μ 64) (h5 : μ' 65 = μ 65) (h7 : μ' 67 = μ 67) (H : MCr μ R) : MCr μ' R := by
  obtain ⟨⟨a1, a2⟩, b, d, e, f, g, h8⟩ := H
  refine ⟨⟨h.trans a1, (h2 _ (by omega)).trans a2⟩, fun i h1 h3 => ?_, fun i h1 h3 => ?_, fun i h1 h3 => ?_, fun i h1 h3 => ?_, fun i h1 h3 => ?_, fun i h1 h3 => ?_⟩
  · rw [h5]; exact b i h1 h3
  · rw [h4]; exact d i h1 h3
  · rw [h7]; exact e i h1 h3
  · rw [h2 _ (by omega)]; exact f i h1 h3
  · rw [h2 _ (by omega)]; exact g i h1 h3
  · rw [h2 _ (by omega)]; exact h8 i h1 h3
def Icache (μ : Mem) : Prop := (μ 46 4 = 0 ∨ μ 46 4 = 1 ∧ ∃ R, MCr μ R ∧ Okr R ∧ OrdC R μ) ∧ (μ 46 5 = 0 ∨ μ 46 5 = 1 ∧ ∃ R, MCr μ R ∧ Okr R ∧ MendC R μ)
def Inv (μ : Mem) : Prop := Iroad μ ∧ Iimg μ ∧ Itape μ ∧ Isheet μ ∧ Ifault μ ∧ Itorn μ ∧ Icache μ
/-! ===== what it stands on ===== -/
theorem mR_congr {μ μ' : Mem} (o : Nat) (h : μ' 61 2 = μ 61 2) (h2 : μ' 62 = μ 62) (h4 : μ' 64 = μ 64) (h5 : μ' 65 = μ 65) (h6 : μ' 66 = μ 66) (h7 : μ' 67 = μ 67) : mR μ' o = mR μ o := by
  funext s i
  unfold mR
  split <;> simp only [h, h2, h4, h5, h6, h7]
theorem RC_congr {μ μ' : Mem} {r : Nat} {R : Rd} (h0 : ∀ j, 7 ≤ j → j < 12 → μ' r j = μ r j) (h : ∀ a, r + 1 ≤ a → a ≤ r + 7 → μ' a = μ a) (H : RC μ r R) : RC μ' r R := by
  unfold RC at H ⊢
  rw [h0 9 (by omega) (by omega), h0 10 (by omega) (by omega), h0 11 (by omega) (by omega), h0 7 (by omega) (by omega), h0 8 (by omega) (by omega), h (r + 1) (by omega) (by omega), h (r + 2) (by omega) (by omega), h (r + 3) (by omega) (by omega), h (r + 4) (by omega) (by omega), h (r + 5) (by omega) (by omega), h (r + 6) (by omega) (by omega), h (r + 7) (by omega) (by omega)]
  exact H
/-- the memory agrees on the static part and st of the reference -/
def SmM (μ μ' : Mem) : Prop := μ' 61 2 = μ 61 2 ∧ μ' 62 = μ 62 ∧ μ' 64 = μ 64 ∧ μ' 65 = μ 65 ∧ μ' 66 = μ 66 ∧ μ' 67 = μ 67
theorem SmM.mR {μ μ' : Mem} (h : SmM μ μ') (o : Nat) : mR μ' o = mR μ o := mR_congr o h.1 h.2.1 h.2.2.1 h.2.2.2.1 h.2.2.2.2.1 h.2.2.2.2.2
theorem Iroad.same {μ μ' : Mem} (hm : SmM μ μ') (h1 : ∀ a, 1 ≤ a → a ≤ 8 → μ' a = μ a) (H : Iroad μ) : Iroad μ' := by
  unfold Iroad
  rw [hm.mR]
  exact ⟨RC_congr (fun j _ _ => by rw [h1 1 (by omega) (by omega)]) (fun a h h' => h1 a (by omega) (by omega)) H.1, H.2⟩
theorem Iimg.same {μ μ' : Mem} (hm : SmM μ μ') (h3 : μ' 63 = μ 63) (h0 : μ' 0 10 = μ 0 10) (h1 : ∀ a, 9 ≤ a → a ≤ 24 → μ' a = μ a) (H : Iimg μ) : Iimg μ' := by
  unfold Iimg
  rw [hm.mR, hm.mR, h3, h0]
  exact ⟨H.1, H.2.1, H.2.2.1, fun h => ⟨RC_congr (fun j _ _ => by rw [h1 9 (by omega) (by omega)]) (fun a h h' => h1 a (by omega) (by omega)) (H.2.2.2.1 h).1, (H.2.2.2.1 h).2⟩, fun h => ⟨RC_congr (fun j _ _ => by rw [h1 17 (by omega) (by omega)]) (fun a h h' => h1 a (by omega) (by omega)) (H.2.2.2.2 h).1, (H.2.2.2.2 h).2⟩⟩
theorem Itape.same {μ μ' : Mem} (h1 : μ' 61 18 = μ 61 18) (h2 : μ' 25 1 = μ 25 1) (h3 : μ' 74 = μ 74) (h4 : μ' 26 = μ 26) (H : Itape μ) : Itape μ' := by
  unfold Itape; rw [h1, h2, h3, h4]; exact H
theorem Isheet.same {μ μ' : Mem} (h1 : μ' 58 = μ 58) (h2 : μ' 59 = μ 59) (h3 : μ' 60 = μ 60) (h4 : μ' 85 = μ 85) (h5 : μ' 86 = μ 86) (h6 : μ' 87 = μ 87) (H : Isheet μ) : Isheet μ' := by
  unfold Isheet; rw [h1, h2, h3, h4, h5, h6]; exact H
theorem Ifault.same {μ μ' : Mem} (h1 : μ' 25 3 = μ 25 3) (h2 : μ' 61 23 = μ 61 23) (H : Ifault μ) : Ifault μ' := by
  unfold Ifault; rw [h1, h2]; exact H
theorem Itorn.same {μ μ' : Mem} (h1 : μ' 57 3 = μ 57 3) (h2 : μ' 61 39 = μ 61 39) (H : Itorn μ) : Itorn μ' := by
  unfold Itorn; rw [h1, h2]; exact H
theorem Icache.same {μ μ' : Mem} (h : μ' 61 2 = μ 61 2) (hj : ∀ j, j < 160 → μ' 62 j = μ 62 j) (h4 : μ' 64 = μ 64) (h5 : μ' 65 = μ 65) (h7 : μ' 67 = μ 67) (h1 : ∀ j, 4 ≤ j → j ≤ 9 → μ' 46 j = μ 46 j) (h2 : μ' 50 = μ 50) (H : Icache μ) : Icache μ' := by
  unfold Icache OrdC MendC at H ⊢
  rw [h2, h1 4 (by omega) (by omega), h1 5 (by omega) (by omega), h1 6 (by omega) (by omega), h1 7 (by omega) (by omega), h1 8 (by omega) (by omega), h1 9 (by omega) (by omega)]
  exact ⟨H.1.imp id (fun z => ⟨z.1, z.2.elim fun R y => ⟨R, y.1.off h hj h4 h5 h7, y.2⟩⟩), H.2.imp id (fun z => ⟨z.1, z.2.elim fun R y => ⟨R, y.1.off h hj h4 h5 h7, y.2⟩⟩)⟩
theorem Icache.dropped {μ : Mem} (h1 : μ 46 4 = 0) (h2 : μ 46 5 = 0) : Icache μ := ⟨Or.inl h1, Or.inl h2⟩
/-- slots on which Inv does not depend -/
def Scr (a j : Nat) : Prop := (a = 0 ∧ j ≠ 10) ∨ (a = 25 ∧ j ≠ 1 ∧ j ≠ 3) ∨ (27 ≤ a ∧ a ≤ 45) ∨ (a = 46 ∧ (j < 4 ∨ 9 < j)) ∨ (47 ≤ a ∧ a ≤ 49) ∨ (51 ≤ a ∧ a ≤ 56) ∨ (a = 57 ∧ j ≠ 3) ∨ (a = 61 ∧ j ≠ 2 ∧ j ≠ 18 ∧ j ≠ 23 ∧ j ≠ 39) ∨ (68 ≤ a ∧ a ≤ 73) ∨ (75 ≤ a ∧ a ≤ 84) ∨ 88 ≤ a
def Off (P : Nat → Nat → Prop) (μ μ' : Mem) : Prop := ∀ a j, ¬ P a j → μ' a j = μ a j
theorem Off.rf {P : Nat → Nat → Prop} {μ : Mem} : Off P μ μ := fun _ _ _ => rfl
theorem Off.tr {P : Nat → Nat → Prop} {μ μ1 μ2 : Mem} (h : Off P μ μ1) (h' : Off P μ1 μ2) : Off P μ μ2 := fun a j n => (h' a j n).trans (h a j n)
theorem Off.mono {P Q : Nat → Nat → Prop} {μ μ1 : Mem} (hPQ : ∀ a j, P a j → Q a j) (h : Off P μ μ1) : Off Q μ μ1 := fun a j n => h a j (fun z => n (hPQ a j z))
theorem Off.set {P : Nat → Nat → Prop} {μ μ1 : Mem} {k i : Nat} {v : Int} (hp : P k i) (h : Off P μ μ1) : Off P μ (mset μ1 k i v) := fun a j n => by
  rw [mset_ap, if_neg (by rintro ⟨rfl, rfl⟩; exact n hp)]; exact h a j n
theorem Off.cell {P : Nat → Nat → Prop} {μ μ1 : Mem} (h : Off P μ μ1) {a : Nat} (n : ∀ j, ¬ P a j) : μ1 a = μ a := funext fun j => h a j (n j)
theorem Scr.smM {μ μ' : Mem} (h : Off Scr μ μ') : SmM μ μ' := ⟨h 61 2 (by unfold Scr; omega), h.cell (by unfold Scr; omega), h.cell (by unfold Scr; omega), h.cell (by unfold Scr; omega), h.cell (by unfold Scr; omega), h.cell (by unfold Scr; omega)⟩
theorem Inv.scr {μ μ' : Mem} (h : Off Scr μ μ') (H : Inv μ) : Inv μ' := by
  obtain ⟨a1, a2, a3, a4, a5, a6, a7⟩ := H
  refine ⟨a1.same (Scr.smM h) (fun a _ _ => h.cell (by unfold Scr; omega)), a2.same (Scr.smM h) (h.cell (by unfold Scr; omega)) (h _ _ (by unfold Scr; omega)) (fun a _ _ => h.cell (by unfold Scr; omega)), a3.same (h _ _ (by unfold Scr; omega)) (h _ _ (by unfold Scr; omega)) (h.cell (by unfold Scr; omega)) (h.cell (by unfold Scr; omega)), a4.same (h.cell (by unfold Scr; omega)) (h.cell (by unfold Scr; omega)) (h.cell (by unfold Scr; omega)) (h.cell (by unfold Scr; omega)) (h.cell (by unfold Scr; omega)) (h.cell (by unfold Scr; omega)), a5.same (h _ _ (by unfold Scr; omega)) (h _ _ (by unfold Scr; omega)), a6.same (h _ _ (by unfold Scr; omega)) (h _ _ (by unfold Scr; omega)), a7.same (h _ _ (by unfold Scr; omega)) (fun j _ => h _ _ (by unfold Scr; omega)) (h.cell (by unfold Scr; omega)) (h.cell (by unfold Scr; omega)) (h.cell (by unfold Scr; omega)) (fun j _ _ => h _ _ (by unfold Scr; omega)) (h.cell (by unfold Scr; omega))⟩
/-! ===== the start ===== -/
theorem rMem_v (k i : Nat) : rMem k i = if k = 1 ∧ i < 21 then -4 else if k = 2 ∧ i < 21 then -4 else if k = 0 ∧ i = 9 then 10 else 0 := by
  unfold rMem rstM wipeM zMem
  simp only [mset]
  grind (splits := 60)
theorem mMem_v (k i : Nat) : mMem k i = if k = 4 ∧ i < 21 then -4 else if k = 5 ∧ i < 21 then -4 else if (k = 9 ∨ k = 10) ∧ i < 21 then -4 else if k = 0 ∧ (i = 2 ∨ i = 8) then 10 else if k = 0 ∧ i = 16 then -4 else if k = 24 ∧ i < 4 then -4 else 0 := by
  unfold mMem kdM0 kdE0 bMem fdM0 fdE0 wipeM aMem lan
  simp only [mset]
  have hz := zN_0
  grind (splits := 60)
theorem cMem_r (k i : Nat) (h : 1 ≤ k ∧ k < 9) : cMem k i = rMem (k - 1) i := by unfold cMem; rw [if_pos h]
theorem cMem_m (k i : Nat) : cMem (61 + k) i = mMem k i := by rw [cMem_model]
theorem cMem_b (k i : Nat) : -4 ≤ cMem k i ∧ cMem k i ≤ 10 := by
  have h1 := rMem_v (k - 1) i
  have h2 := rMem_v (k - 9) i
  have h3 := rMem_v (k - 17) i
  have h4 := rMem_v (k - 27) i
  have h5 := mMem_v (k - 61) i
  unfold cMem lan
  grind (splits := 60)
theorem okC : okMem S88 cMem := ok_small cMem_b
theorem mR_c : mR cMem 0 = fun s i => if s = 0 ∧ i = 0 then 10 else if (s = 1 ∨ s = 2) ∧ i.toNat < 21 then -4 else 0 := by
  funext s i
  have e62 : ∀ j, cMem 62 j = 0 := fun j => by rw [show (62 : Nat) = 61 + 1 from rfl, cMem_m, mMem_v]; grind
  have e64 : ∀ j, cMem 64 j = 0 := fun j => by rw [show (64 : Nat) = 61 + 3 from rfl, cMem_m, mMem_v]; grind
  have e67 : ∀ j, cMem 67 j = 0 := fun j => by rw [show (67 : Nat) = 61 + 6 from rfl, cMem_m, mMem_v]; grind
  have e65 : ∀ j, cMem 65 j = if j < 21 then -4 else 0 := fun j => by rw [show (65 : Nat) = 61 + 4 from rfl, cMem_m, mMem_v]; grind
  have e66 : ∀ j, cMem 66 j = if j < 21 then -4 else 0 := fun j => by rw [show (66 : Nat) = 61 + 5 from rfl, cMem_m, mMem_v]; grind
  have e61 : cMem 61 2 = 10 := by rw [show (61 : Nat) = 61 + 0 from rfl, cMem_m, mMem_v]; grind
  unfold mR
  split <;> simp only [e62, e64, e65, e66, e67, e61] <;> grind
theorem inv_c : Inv cMem := by
  have m61 : ∀ j, cMem 61 j = mMem 0 j := fun j => by rw [show (61 : Nat) = 61 + 0 from rfl, cMem_m]
  have m63 : ∀ j, cMem 63 j = mMem 2 j := fun j => by rw [show (63 : Nat) = 61 + 2 from rfl, cMem_m]
  have m85 : ∀ j, cMem 85 j = mMem 24 j := fun j => by rw [show (85 : Nat) = 61 + 24 from rfl, cMem_m]
  refine ⟨⟨?_, ?_⟩, ?_, ?_, ?_, ?_, ?_, ?_⟩
  · rw [mR_c]
    refine ⟨?_, fun i h1 h2 => ?_, fun i h1 h2 => ?_, ⟨0, ?_, by omega, fun i hi => ?_⟩, fun i h1 h2 => ?_, fun i h1 h2 => ?_, fun i h1 h2 => ?_, fun i h1 h2 => ?_, ⟨0, ?_, by omega, fun i hi => ?_⟩, fun i h1 h2 => ?_⟩
    · rw [cMem_r _ _ (by omega), cMem_r _ _ (by omega), cMem_r _ _ (by omega), rMem_v, rMem_v, rMem_v]; grind
    · rw [cMem_r _ _ (by omega), rMem_v]; grind
    · rw [cMem_r _ _ (by omega), rMem_v]; grind
    · rw [cMem_r _ _ (by omega), rMem_v]; grind
    · simp
    · rw [cMem_r _ _ (by omega), rMem_v]; grind
    · rw [cMem_r _ _ (by omega), rMem_v]; grind
    · exfalso; grind
    · rw [cMem_r _ _ (by omega), rMem_v]; grind
    · rw [cMem_r _ _ (by omega), rMem_v]; grind
    · simp
    · exfalso; grind
  · rw [mR_c]
    unfold Ok pt
    refine ⟨?_, fun i h1 h2 => ?_, fun i h1 h2 => ?_, fun i h1 h2 => ?_, fun i h1 h2 => ?_, fun i h1 h2 => ?_, fun i h1 h2 => ?_, fun i h1 h2 => ?_, fun i h1 h2 => ?_, fun i h1 h2 => ?_⟩
    all_goals first
      | grind
      | (exfalso; grind)
  · unfold Iimg
    rw [m63, m63, mMem_v, mMem_v]
    have h0 : cMem 0 10 = 0 := by unfold cMem; grind
    rw [h0]
    refine ⟨by grind, by grind, by grind, fun h => ?_, fun h => ?_⟩
    · exfalso; grind
    · exfalso; grind
  · unfold Itape
    rw [m61, mMem_v]
    have h0 : cMem 25 1 = 0 := by unfold cMem; grind
    rw [h0]
    refine ⟨by grind, by grind, fun i h1 h2 => ?_⟩
    exfalso; grind
  · intro k h1 h2
    left
    rw [m85, mMem_v]
    refine ⟨?_, by grind⟩
    unfold cMem lan; grind
  · unfold Ifault
    rw [m61, mMem_v]; unfold cMem; grind
  · unfold Itorn
    rw [m61, mMem_v]; unfold cMem; grind
  · refine Icache.dropped ?_ ?_
    · unfold cMem; grind
    · unfold cMem; grind
