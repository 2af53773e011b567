/-! ===== way, the class's side ===== -/
noncomputable def coinsW (R : Rd) (c s a : Int) : Int := if 1 < a then R 2 (s / 3) else tollP R c (thenP R c s a)
def hoursW (R : Rd) (c a : Int) : Int := if a < 2 ∧ pt R c 0 = 2 then 2 else 1
noncomputable def keyW (R : Rd) (c b s a : Int) : Int := if b = 0 then 1000000 * coinsW R c s a + 1000 * hoursW R c a + 1 else 1000000 * hoursW R c a + 1000 * coinsW R c s a + 1
theorem coinsW_in {R : Rd} {c s a : Int} (hO : Ok R) (hs : 0 ≤ s ∧ s < 63) (ha : 0 ≤ a ∧ a < 5) (ht : thenP R c s a ≠ -4) : 0 ≤ coinsW R c s a ∧ coinsW R c s a ≤ 9 := by
  have hb := hO.r.1
  have hin := (thenP_in (R := R) (c := c) (s := s) (act := a) (by omega) hs.1 ha).resolve_left ht
  unfold coinsW
  by_cases z : 1 < a
  · rw [if_pos z]
    have h2 := hO.2.2.1 (s / 3) (by omega) (by omega)
    have : R 2 (s / 3) ≠ -4 := fun q => ht (by
      unfold thenP
      split
      · rfl
      · rw [if_neg (fun n => n.1 q)])
    omega
  · rw [if_neg z]
    have := hO.2.2.2.2.1 (thenP R c s a) hin.1.1 hin.1.2
    unfold tollP
    split <;> omega
theorem hoursW_in {R : Rd} {c a : Int} : 1 ≤ hoursW R c a ∧ hoursW R c a ≤ 2 := by unfold hoursW; split <;> omega
theorem tkW {R : Rd} {c b : Int} (hO : Ok R) : TKs (thenP R c) (keyW R c b) := fun s a h1 h2 a1 a2 ht => by
  have hb := hO.r.1
  have hin := (thenP_in (R := R) (c := c) (s := s) (act := a) (by omega) h1 ⟨a1, a2⟩).resolve_left ht
  have h3 := coinsW_in hO ⟨h1, h2⟩ ⟨a1, a2⟩ ht
  have h4 := hoursW_in (R := R) (c := c) (a := a)
  refine ⟨hin.1, ?_⟩
  unfold keyW
  split <;> omega
def rW (F : Int) (a : Nat) (r : Int → Int) (μ : Mem) : Prop := ∀ t : Int, 0 ≤ t → t < 63 → μ a t.toNat = if r t < 0 then F else r t
def M52 (a _j : Nat) : Prop := a = 52
theorem RC.way {μ μ' : Mem} {R : Rd} (h : Off M52 μ μ') (H : RC μ 1 R) : RC μ' 1 R := H.off (fun a h1 h2 => h.cell (fun j => by unfold M52; omega))
theorem crank {μ : Mem} {R : Rd} {c b s a : Int} (hR : RC μ 1 R) (hO : Ok R) (h51 : μ 51 2 = c) (h53 : μ 51 3 = if b = 0 then 1 else 0) (hc : 0 ≤ c ∧ c < R 0 1) (hs : 0 ≤ s ∧ s < 63) (ha : 0 ≤ a ∧ a < 5) (ht : thenP R c s a ≠ -4) : way_rankOf μ s a (thenP R c s a) = some (keyW R c b s a) := by
  have hb := hO.r.1
  have hin := (thenP_in (R := R) (c := c) (s := s) (act := a) (by omega) hs.1 ha).resolve_left ht
  have hco := coinsW_in hO hs ha ht
  have e75 : ∀ co ho : Int, 0 ≤ co ∧ co ≤ 9 → 0 ≤ ho ∧ ho ≤ 2 → way_rankOf_75 μ co ho = some (if b = 0 then 1000000 * co + 1000 * ho + 1 else 1000000 * ho + 1000 * co + 1) := fun co ho h1 h2 => by
    rw [way_rankOf_75.eq_1, h53]
    by_cases z : b = 0
    · rw [if_pos z, if_neg (by omega), if_pos z, wI_id (x := co * 1000) (by omega), wI_id (x := co * 1000 + ho) (by omega), wI_id (x := (co * 1000 + ho) * 1000) (by omega), wI_id (by omega)]
      congr 1; omega
    · rw [if_neg z, if_pos rfl, if_neg z, wI_id (x := ho * 1000) (by omega), wI_id (x := ho * 1000 + co) (by omega), wI_id (x := (ho * 1000 + co) * 1000) (by omega), wI_id (by omega)]
      congr 1; omega
  have hh := hoursW_in (R := R) (c := c) (a := a)
  unfold keyW
  rw [way_rankOf.eq_1, way_rankOf_10.eq_1, way_rankOf_10.eq_1]
  by_cases z : 1 < a
  · have hc2 : coinsW R c s a = R 2 (s / 3) := if_pos z
    have hy : s / 3 ≤ R 0 0 := by
      refine Decidable.byContradiction (fun n => ht ?_)
      unfold thenP
      rw [if_pos (by omega)]
    have hho : hoursW R c a = 1 := if_neg (by omega)
    rw [if_neg (by omega), if_neg (by omega), iDiv_eq (by omega) (by omega), smithAt_in (by omega), Option.bind_some, show μ (1 + 2) (s / 3).toNat = _ from hR.2.2.1 (s / 3) (by omega) (by omega), way_rankOf_47.eq_1, if_neg (by omega), ← hc2, e75 _ 1 hco (by omega), hho]
  · have hc2 : coinsW R c s a = tollP R c (thenP R c s a) := if_neg z
    have ek : 3 * (thenP R c s a / 3) + thenP R c s a % 3 = thenP R c s a := by omega
    rw [if_pos (by omega), if_pos rfl, iDiv_eq (by omega) (by omega), iRem_eq (by omega) (by omega), h51, ctoll hR.r hO.r hc (by omega), Option.bind_some, ek, ← hc2, way_rankOf_47.eq_1, if_pos rfl, h51, cpart hR.r (by omega) (by omega), Option.bind_some]
    unfold hoursW
    by_cases y : pt R c 0 = 2
    · rw [if_pos y, e75 _ 2 hco (by omega), if_pos (show a < 2 ∧ pt R c 0 = 2 from ⟨by omega, y⟩)]
    · rw [if_neg y, e75 _ 1 hco (by omega), if_neg (show ¬ (a < 2 ∧ pt R c 0 = 2) from fun q => y q.2)]
theorem crankBy {μ : Mem} {R : Rd} {c b s a : Int} {G : Int → Prop} {r : Int → Int} (hR : RC μ 1 R) (hO : Ok R) (h51 : μ 51 2 = c) (h53 : μ 51 3 = if b = 0 then 1 else 0) (hc : 0 ≤ c ∧ c < R 0 1) (hr : rW 2000000000 52 r μ) (hG : Gd (thenP R c) (keyW R c b) G r) (hs : 0 ≤ s ∧ s < 63) (ha : 0 ≤ a ∧ a < 5) : (thenP R c s a ≠ -4 ∧ 0 ≤ r (thenP R c s a) → way_rankBy μ s a = some (r (thenP R c s a) + keyW R c b s a)) ∧ (¬ (thenP R c s a ≠ -4 ∧ 0 ≤ r (thenP R c s a)) → way_rankBy μ s a = some 2000000000) := by
  have hb := hO.r.1
  rw [way_rankBy.eq_1, cstand hR hO h51 hc hs ha, Option.bind_some]
  simp only [way_rankBy_24.eq_1]
  by_cases z : thenP R c s a = -4
  · rw [if_neg (by omega), if_pos trivial]
    exact ⟨fun q => absurd z q.1, fun _ => rfl⟩
  · have hin := (thenP_in (R := R) (c := c) (s := s) (act := a) (by omega) hs.1 ha).resolve_left z
    have hk := (tkW (c := c) (b := b) hO).kin s a hs.1 hs.2 ha.1 ha.2 z
    have htop := hG.top hin.1.1 hin.1.2
    rw [if_pos (by omega), at_in (by omega), Option.bind_some, hr _ hin.1.1 hin.1.2]
    by_cases y : r (thenP R c s a) < 0
    · rw [if_pos y, if_pos rfl]
      exact ⟨fun q => by omega, fun _ => rfl⟩
    · rw [if_neg y, if_neg (by omega), crank hR hO h51 h53 hc hs ha z, Option.bind_some, wI_id (by omega)]
      exact ⟨fun _ => rfl, fun n => absurd ⟨z, by omega⟩ n⟩
theorem cfind114 {μ : Mem} {R : Rd} {c b s i on k : Int} {G : Int → Prop} {r0 r : Int → Int} {P Q : Int → Int → Prop} (hR : RC μ 1 R) (hO : Ok R) (h51 : μ 51 2 = c) (h53 : μ 51 3 = if b = 0 then 1 else 0) (hc : 0 ≤ c ∧ c < R 0 1) (hr : rW 2000000000 52 r μ) (hS : SI (thenP R c) (keyW R c b) G r0 r on P) (hs : 0 ≤ s ∧ s < 63) (hi : 0 ≤ i ∧ i < 315) (hQ : ∀ s' a', Q s' a' → P s' a' ∨ s' = s ∧ a' = i % 5) (K : Int → Int → Int → Mem → Option Mem) : ∃ on' r' μ', way_find_114 K on k i s μ = K on' k (i + 1) μ' ∧ Off M52 μ μ' ∧ rW 2000000000 52 r' μ' ∧ SI (thenP R c) (keyW R c b) G r0 r' on' Q := by
  have hb := hO.r.1
  have hT := tkW (c := c) (b := b) hO
  have ha : 0 ≤ i % 5 ∧ i % 5 < 5 := by omega
  have hk := crankBy hR hO h51 h53 hc hr hS.1 hs ha
  have hcell := hr s hs.1 hs.2
  have htop := hS.1.top hs.1 hs.2
  have on01 : on = 0 ∨ on = 1 := by
    rcases hS.2.2.2 with q | q
    · exact Or.inl q.1
    · exact Or.inr q.1
  have e151 : ∀ v o : Int, way_find_151 K k i s v o μ = K o k (i + 1) (mset μ 52 s.toNat (iMin v (μ 52 s.toNat))) := fun v o => by
    rw [way_find_151.eq_1, at_in (by omega), Option.bind_some, put_in (by omega), Option.bind_some, wI_id (by omega)]
  have o : ∀ v, Off M52 μ (mset μ 52 s.toNat v) := fun v => Off.rf.set (by unfold M52; omega)
  rw [way_find_114.eq_1, iRem_eq (by omega) (by omega)]
  by_cases z : thenP R c s (i % 5) ≠ -4 ∧ 0 ≤ r (thenP R c s (i % 5))
  · rw [hk.1 z, Option.bind_some, at_in (by omega), Option.bind_some, e151, e151]
    have hin := hT.tin s (i % 5) hs.1 hs.2 ha.1 ha.2 z.1
    have hkk := hT.kin s (i % 5) hs.1 hs.2 ha.1 ha.2 z.1
    have ttop := hS.1.top hin.1 hin.2
    by_cases y : cond (thenP R c) (keyW R c b) r s (i % 5)
    · refine ⟨1, _, mset μ 52 s.toNat (r (thenP R c s (i % 5)) + keyW R c b s (i % 5)), ?_, o _, fun t t1 t2 => ?_, hS.upd hT hs.1 hs.2 ha.1 ha.2 y hQ⟩
      · have y3 := y.2.2
        have lt : r (thenP R c s (i % 5)) + keyW R c b s (i % 5) < μ 52 s.toNat := by
          rw [hcell]; split <;> omega
        have em : iMin (r (thenP R c s (i % 5)) + keyW R c b s (i % 5)) (μ 52 s.toNat) = r (thenP R c s (i % 5)) + keyW R c b s (i % 5) := by unfold iMin; rw [if_neg (by omega)]
        rw [em, if_neg (show ¬ μ 52 s.toNat ≤ r (thenP R c s (i % 5)) + keyW R c b s (i % 5) by omega)]
        split <;> rfl
      · rw [mset_ap]
        show _ = if (if t = s then r (thenP R c s (i % 5)) + keyW R c b s (i % 5) else r t) < 0 then 2000000000 else (if t = s then r (thenP R c s (i % 5)) + keyW R c b s (i % 5) else r t)
        by_cases e : t = s
        · rw [if_pos ⟨rfl, by rw [e]⟩, if_pos e, if_neg (by omega)]
        · rw [if_neg (by omega), if_neg e]; exact hr t t1 t2
    · have n3 : ¬ (r s < 0 ∨ r (thenP R c s (i % 5)) + keyW R c b s (i % 5) < r s) := fun q => y ⟨z.1, z.2, q⟩
      have ce : μ 52 s.toNat = r s := by rw [hcell, if_neg (by omega)]
      have em : iMin (r (thenP R c s (i % 5)) + keyW R c b s (i % 5)) (μ 52 s.toNat) = μ 52 s.toNat := by unfold iMin; split <;> omega
      refine ⟨on, r, mset μ 52 s.toNat (μ 52 s.toNat), ?_, o _, fun t t1 t2 => ?_, hS.keep hT hs.1 hs.2 ha.1 ha.2 y hQ⟩
      · rw [em]
        rcases on01 with q | q
        · rw [if_pos q, if_pos (by omega), q]
        · rw [if_neg (by omega), q]
      · rw [mset_ap]
        by_cases e : t = s
        · rw [if_pos ⟨rfl, by rw [e]⟩, e]; exact hcell
        · rw [if_neg (by omega)]; exact hr t t1 t2
  · rw [hk.2 z, Option.bind_some, at_in (by omega), Option.bind_some, e151, e151]
    have em : iMin 2000000000 (μ 52 s.toNat) = μ 52 s.toNat := by
      have : μ 52 s.toNat ≤ 2000000000 := by rw [hcell]; split <;> omega
      unfold iMin; split <;> omega
    have ce : μ 52 s.toNat ≤ 2000000000 := by rw [hcell]; split <;> omega
    refine ⟨on, r, mset μ 52 s.toNat (μ 52 s.toNat), ?_, o _, fun t t1 t2 => ?_, hS.keep hT hs.1 hs.2 ha.1 ha.2 (fun q => z ⟨q.1, q.2.1⟩) hQ⟩
    · rw [em]
      rcases on01 with q | q
      · rw [if_pos q, if_pos ce, q]
      · rw [if_neg (by omega), q]
    · rw [mset_ap]
      by_cases e : t = s
      · rw [if_pos ⟨rfl, by rw [e]⟩, e]; exact hcell
      · rw [if_neg (by omega)]; exact hr t t1 t2
def sigW (k j : Int) : Int := if k % 2 = 0 then j / 5 else 62 - j / 5
def PW (k i s a : Int) : Prop := ∃ j : Int, 0 ≤ j ∧ j < i ∧ s = sigW k j ∧ a = j % 5
theorem PW_all {k s a : Int} (h1 : 0 ≤ s) (h2 : s < 63) (a1 : 0 ≤ a) (a2 : a < 5) : PW k 315 s a := by
  unfold PW sigW
  by_cases z : k % 2 = 0
  · exact ⟨5 * s + a, by omega, by omega, by rw [if_pos z]; omega, by omega⟩
  · exact ⟨5 * (62 - s) + a, by omega, by omega, by rw [if_neg z]; omega, by omega⟩
theorem cfind85 {R : Rd} {c b k : Int} {G : Int → Prop} {r0 : Int → Int} (hO : Ok R) (hc : 0 ≤ c ∧ c < R 0 1) (hk : 0 ≤ k ∧ k < 1000) (K : Int → Int → Mem → Option Mem) : ∀ (m f : Nat) (i on : Int) (r : Int → Int) (μ : Mem), m < f → 0 ≤ i → i + m = 315 → RC μ 1 R → μ 51 2 = c → μ 51 3 = (if b = 0 then 1 else 0) → rW 2000000000 52 r μ → SI (thenP R c) (keyW R c b) G r0 r on (PW k i) → ∃ on' r' μ', way_find_85 K f on k i μ = K on' (k + 1) μ' ∧ Off M52 μ μ' ∧ rW 2000000000 52 r' μ' ∧ SI (thenP R c) (keyW R c b) G r0 r' on' (PW k 315) := by
  intro m
  induction m with
  | zero =>
    intro f i on r μ hf h0 he hR h51 h53 hr hS
    obtain ⟨f, rfl⟩ : ∃ g, f = g + 1 := ⟨f - 1, by omega⟩
    have hi : i = 315 := by omega
    refine ⟨on, r, μ, ?_, Off.rf, hr, by rw [← hi]; exact hS⟩
    rw [way_find_85.eq_2, if_pos (by omega), wI_id (by omega)]
  | succ m ih =>
    intro f i on r μ hf h0 he hR h51 h53 hr hS
    obtain ⟨f, rfl⟩ : ∃ g, f = g + 1 := ⟨f - 1, by omega⟩
    have hsg : 0 ≤ sigW k i ∧ sigW k i < 63 := by unfold sigW; split <;> omega
    have hQ : ∀ s' a', PW k (i + 1) s' a' → PW k i s' a' ∨ s' = sigW k i ∧ a' = i % 5 := fun s' a' ⟨j, j1, j2, j3, j4⟩ => by
      by_cases z : j = i
      · right; rw [z] at j3 j4; exact ⟨j3, j4⟩
      · left; exact ⟨j, j1, by omega, j3, j4⟩
    obtain ⟨on1, r1, μ1, k1, k2, k3, k4⟩ := cfind114 (k := k) hR hO h51 h53 hc hr hS hsg (i := i) ⟨h0, by omega⟩ hQ (way_find_85 K f)
    obtain ⟨on', r', μ', x1, x2, x3, x4⟩ := ih f (i + 1) on1 r1 μ1 (by omega) (by omega) (by omega) (hR.way k2) (by rw [k2 51 2 (by unfold M52; omega)]; exact h51) (by rw [k2 51 3 (by unfold M52; omega)]; exact h53) k3 k4
    refine ⟨on', r', μ', ?_, k2.tr x2, x3, x4⟩
    rw [way_find_85.eq_2, if_neg (by omega), iRem_eq (by omega) (by omega), iDiv_eq (by omega) (by omega), wI_id (x := 62 - i / 5) (by omega), ← x1, ← k1]
    unfold sigW
    by_cases z : k % 2 = 0
    · rw [if_pos z, if_pos z]
    · rw [if_neg z, if_neg z]
theorem cfind69 {R : Rd} {c b : Int} {G : Int → Prop} (hO : Ok R) (hc : 0 ≤ c ∧ c < R 0 1) : ∀ (m f : Nat) (k : Nat) (on : Int) (r : Int → Int) (μ : Mem), m < f → k + m = 64 → RC μ 1 R → μ 51 2 = c → μ 51 3 = (if b = 0 then 1 else 0) → rW 2000000000 52 r μ → Gd (thenP R c) (keyW R c b) G r → BF (thenP R c) (keyW R c b) G k r → (on = 0 ∧ Fx (thenP R c) (keyW R c b) r ∨ on = 1 ∧ k ≤ 62) → ∃ r' μ', way_find_69 f on (k : Int) μ = some μ' ∧ Off M52 μ μ' ∧ rW 2000000000 52 r' μ' ∧ Gd (thenP R c) (keyW R c b) G r' ∧ Fx (thenP R c) (keyW R c b) r' := by
  have hB := BIG_gt
  have hT := tkW (c := c) (b := b) hO
  intro m
  induction m with
  | zero =>
    intro f k on r μ hf he hR h51 h53 hr hG hBF hon
    obtain ⟨f, rfl⟩ : ∃ g, f = g + 1 := ⟨f - 1, by omega⟩
    rcases hon with ⟨q1, q2⟩ | ⟨q1, q2⟩
    · exact ⟨r, μ, by rw [way_find_69.eq_2, if_pos q1], Off.rf, hr, hG, q2⟩
    · omega
  | succ m ih =>
    intro f k on r μ hf he hR h51 h53 hr hG hBF hon
    obtain ⟨f, rfl⟩ : ∃ g, f = g + 1 := ⟨f - 1, by omega⟩
    rcases hon with ⟨q1, q2⟩ | ⟨q1, q2⟩
    · exact ⟨r, μ, by rw [way_find_69.eq_2, if_pos q1], Off.rf, hr, hG, q2⟩
    · obtain ⟨on1, r1, μ1, k1, k2, k3, k4⟩ := cfind85 (k := (k : Int)) hO hc (by omega) (way_find_69 f) 315 BIG 0 0 r μ (by omega) (by omega) (by omega) hR h51 h53 hr (SI.start (P := PW (k : Int) 0) hG (fun s a ⟨j, j1, j2, _⟩ => by omega))
      have hall : ∀ s a, 0 ≤ s → s < 63 → 0 ≤ a → a < 5 → thenP R c s a ≠ -4 → PW (k : Int) 315 s a := fun s a h1 h2 a1 a2 _ => PW_all h1 h2 a1 a2
      obtain ⟨r', μ', x1, x2, x3, x4, x5⟩ := ih f (k + 1) on1 r1 μ1 (by omega) (by omega) (hR.way k2) (by rw [k2 51 2 (by unfold M52; omega)]; exact h51) (by rw [k2 51 3 (by unfold M52; omega)]; exact h53) k3 k4.1 (k4.bf hT hall hBF) (by
        rcases k4.2.2.2 with ⟨p1, _⟩ | ⟨p1, p2⟩
        · left
          refine ⟨p1, ?_⟩
          rw [p1] at k4
          exact k4.stop hall
        · right
          refine ⟨p1, ?_⟩
          refine Decidable.byContradiction (fun n => p2 (BF_fx hT hG hBF (by omega))))
      refine ⟨r', μ', ?_, k2.tr x2, x3, x4, x5⟩
      rw [way_find_69.eq_2, if_neg (by omega), if_neg (by omega), k1, show (k : Int) + 1 = ((k + 1 : Nat) : Int) by omega, x1]
theorem cfind29 {R : Rd} {c : Int} (hO : Ok R) (hc : 0 ≤ c ∧ c < R 0 1) : ∀ (m f : Nat) (i : Int) (μ : Mem), m < f → 0 ≤ i → i + m = 3 → RC μ 1 R → μ 51 2 = c → (∀ t : Int, 0 ≤ t → t < 63 → μ 52 t.toNat = if t / 3 = pt R c 5 ∧ t % 3 < i then 0 else 2000000000) → ∃ μ', way_find_29 f i μ = way_find_69 BIG 1 0 μ' ∧ Off M52 μ μ' ∧ (∀ t : Int, 0 ≤ t → t < 63 → μ' 52 t.toNat = if t / 3 = pt R c 5 then 0 else 2000000000) := by
  have hb := hO.r.1
  have hpc := hO.2.2.2.2.2.2.1 c hc.1 hc.2
  intro m
  induction m with
  | zero =>
    intro f i μ hf h0 he hR h51 hr
    obtain ⟨f, rfl⟩ : ∃ g, f = g + 1 := ⟨f - 1, by omega⟩
    refine ⟨μ, by rw [way_find_29.eq_2, if_pos (by omega)], Off.rf, fun t t1 t2 => ?_⟩
    rw [hr t t1 t2]
    by_cases z : t / 3 = pt R c 5
    · rw [if_pos z, if_pos ⟨z, by omega⟩]
    · rw [if_neg z, if_neg (fun q => z q.1)]
  | succ m ih =>
    intro f i μ hf h0 he hR h51 hr
    obtain ⟨f, rfl⟩ : ∃ g, f = g + 1 := ⟨f - 1, by omega⟩
    have o : Off M52 μ (mset μ 52 (3 * pt R c 5 + i).toNat 0) := Off.rf.set (by unfold M52; omega)
    obtain ⟨μ', k1, k2, k3⟩ := ih f (i + 1) (mset μ 52 (3 * pt R c 5 + i).toNat 0) (by omega) (by omega) (by omega) (hR.way o) (by rw [mset_off (by omega)]; exact h51) (fun t t1 t2 => by
      rw [mset_ap]
      by_cases e : t = 3 * pt R c 5 + i
      · rw [if_pos ⟨rfl, by rw [e]⟩, if_pos (by omega)]
      · rw [if_neg (by omega), hr t t1 t2]
        by_cases z : t / 3 = pt R c 5 ∧ t % 3 < i
        · rw [if_pos z, if_pos (by omega)]
        · rw [if_neg z, if_neg (by omega)])
    refine ⟨μ', ?_, o.tr k2, k3⟩
    rw [way_find_29.eq_2, if_neg (by omega), h51, cpart hR.r (by omega) (by omega), Option.bind_some, rut_eq (by omega), Option.bind_some, put_in (by omega), Option.bind_some, wI_id (by omega), k1]
def gW (R : Rd) (c s : Int) : Prop := s / 3 = pt R c 5
def r0W (R : Rd) (c s : Int) : Int := if s / 3 = pt R c 5 then 0 else -1
theorem Gd_0 {R : Rd} {c b : Int} : Gd (thenP R c) (keyW R c b) (gW R c) (r0W R c) := by
  refine ⟨fun s h1 h2 h => ?_, fun s h1 h2 h => if_pos h⟩
  by_cases z : s / 3 = pt R c 5
  · have e : r0W R c s = 0 := if_pos z
    exact ⟨⟨0, z, e⟩, by omega⟩
  · have e : r0W R c s = -1 := if_neg z
    omega
def M5152 (a _j : Nat) : Prop := a = 51 ∨ a = 52
theorem cfind {μ : Mem} {R : Rd} {c b : Int} (hR : RC μ 1 R) (hO : Ok R) (hc : 0 ≤ c ∧ c < R 0 1) : ∃ r μ', way_find c b μ = some μ' ∧ Off M5152 μ μ' ∧ RC μ' 1 R ∧ μ' 51 2 = c ∧ μ' 51 3 = (if b = 0 then 1 else 0) ∧ rW 2000000000 52 r μ' ∧ Gd (thenP R c) (keyW R c b) (gW R c) r ∧ Fx (thenP R c) (keyW R c b) r := by
  have hB := BIG_gt
  have go : ∀ v : Int, v = (if b = 0 then 1 else 0) → ∃ r μ', way_find_15 v (mset μ 51 2 c) = some μ' ∧ Off M5152 μ μ' ∧ RC μ' 1 R ∧ μ' 51 2 = c ∧ μ' 51 3 = (if b = 0 then 1 else 0) ∧ rW 2000000000 52 r μ' ∧ Gd (thenP R c) (keyW R c b) (gW R c) r ∧ Fx (thenP R c) (keyW R c b) r := fun v hv => by
    have hR1 : RC (mset (mset μ 51 2 c) 51 3 v) 1 R := hR.off (fun a h1 h2 => by rw [mset_off (by omega), mset_off (by omega)])
    have ow : Off M52 (mset (mset μ 51 2 c) 51 3 v) (wipeM (mset (mset μ 51 2 c) 51 3 v) 52 63 2000000000) := fun a j n => if_neg (fun q => n q.1)
    have e2 : mset (mset μ 51 2 c) 51 3 v 51 2 = c := by
      rw [mset_ap, if_neg (by omega), mset_ap, if_pos ⟨rfl, rfl⟩]
    have e3 : mset (mset μ 51 2 c) 51 3 v 51 3 = v := by rw [mset_ap, if_pos ⟨rfl, rfl⟩]
    obtain ⟨μ1, k1, k2, k3⟩ := cfind29 hO hc 3 BIG 0 (wipeM (mset (mset μ 51 2 c) 51 3 v) 52 63 2000000000) (by omega) (by omega) (by omega) (hR1.way ow) (by rw [ow 51 2 (by unfold M52; omega)]; exact e2) (fun t t1 t2 => by
      rw [if_neg (show ¬ (t / 3 = pt R c 5 ∧ t % 3 < 0) by omega)]
      exact if_pos ⟨rfl, by omega⟩)
    have o1 := ow.tr k2
    have f2 : μ1 51 2 = c := by rw [o1 51 2 (by unfold M52; omega)]; exact e2
    have f3 : μ1 51 3 = (if b = 0 then 1 else 0) := by rw [o1 51 3 (by unfold M52; omega), ← hv]; exact e3
    obtain ⟨r, μ', x1, x2, x3, x4, x5⟩ := cfind69 (b := b) (G := gW R c) hO hc 64 BIG 0 1 (r0W R c) μ1 (by omega) (by omega) (hR1.way o1) f2 f3 (fun t t1 t2 => by
      rw [k3 t t1 t2]
      unfold r0W
      by_cases z : t / 3 = pt R c 5
      · rw [if_pos z, if_pos z, if_neg (by omega)]
      · rw [if_neg z, if_neg z, if_pos (by omega)]) Gd_0 (BF_0 Gd_0) (Or.inr ⟨rfl, by omega⟩)
    have e0 : ((0 : Nat) : Int) = 0 := rfl
    rw [e0] at x1
    have oall := o1.tr x2
    refine ⟨r, μ', ?_, ?_, hR1.way oall, by rw [x2 51 2 (by unfold M52; omega)]; exact f2, by rw [x2 51 3 (by unfold M52; omega)]; exact f3, x3, x4, x5⟩
    · rw [way_find_15.eq_1, bnd.eq_1, wipe_eq' (by omega), Option.bind_some, k1, x1]
    · exact ((Off.rf.set (by unfold M5152; omega) : Off M5152 μ (mset μ 51 2 c)).set (by unfold M5152; omega)).tr (oall.mono (fun a j z => by unfold M52 at z; unfold M5152; omega))
  rw [way_find.eq_1, bnd.eq_1]
  by_cases z : b = 0
  · rw [if_pos z]
    exact go 1 (by rw [if_pos z])
  · rw [if_neg z]
    exact go 0 (by rw [if_neg z])
theorem cbest {μ : Mem} {R : Rd} {c b s : Int} {G : Int → Prop} {r : Int → Int} (hR : RC μ 1 R) (hO : Ok R) (h51 : μ 51 2 = c) (h53 : μ 51 3 = if b = 0 then 1 else 0) (hc : 0 ≤ c ∧ c < R 0 1) (hr : rW 2000000000 52 r μ) (hG : Gd (thenP R c) (keyW R c b) G r) (hs : 0 ≤ s ∧ s < 63) (h0 : 0 ≤ r s) {a : Int} (hl : lst (thenP R c) (keyW R c b) r s a) : ∀ (m f : Nat) (x : Int), m < f → 0 ≤ x → x + m = a → way_bestAct_2 μ f s x = some a := by
  have htop := hG.top hs.1 hs.2
  have hcell : μ 52 s.toNat = r s := by rw [hr s hs.1 hs.2, if_neg (by omega)]
  have ha := hl.1
  intro m
  induction m with
  | zero =>
    intro f x hf x1 x2
    obtain ⟨f, rfl⟩ : ∃ g, f = g + 1 := ⟨f - 1, by omega⟩
    obtain rfl : x = a := by omega
    have ht := hl.2.1
    rw [way_bestAct_2.eq_2, if_neg (by omega), (crankBy hR hO h51 h53 hc hr hG hs ha).1 ⟨ht.1, ht.2.1⟩, Option.bind_some, at_in (by omega), Option.bind_some, hcell, if_pos ht.2.2]
  | succ m ih =>
    intro f x hf x1 x2
    obtain ⟨f, rfl⟩ : ∃ g, f = g + 1 := ⟨f - 1, by omega⟩
    have hn := hl.2.2 x x1 (by omega)
    have hk := crankBy hR hO h51 h53 hc hr hG hs (a := x) ⟨x1, by omega⟩
    rw [way_bestAct_2.eq_2, if_neg (by omega), wI_id (by omega)]
    by_cases z : thenP R c s x ≠ -4 ∧ 0 ≤ r (thenP R c s x)
    · rw [hk.1 z, Option.bind_some, at_in (by omega), Option.bind_some, hcell, if_neg (fun q => hn ⟨z.1, z.2, q⟩)]
      exact ih f (x + 1) (by omega) (by omega) (by omega)
    · rw [hk.2 z, Option.bind_some, at_in (by omega), Option.bind_some, hcell, if_neg (by omega)]
      exact ih f (x + 1) (by omega) (by omega) (by omega)
theorem cactAt {μ : Mem} {R : Rd} {c b : Int} {G : Int → Prop} {r : Int → Int} (hR : RC μ 1 R) (hO : Ok R) (h51 : μ 51 2 = c) (h53 : μ 51 3 = if b = 0 then 1 else 0) (hc : 0 ≤ c ∧ c < R 0 1) (hr : rW 2000000000 52 r μ) (hG : Gd (thenP R c) (keyW R c b) G r) (i : Int) (hi : i < 1000) {a : Int} : ∀ (n f : Nat) (s j : Int), n < f → 0 ≤ j → j + n = i → 0 ≤ s → s < 63 → 0 ≤ r s → At (thenP R c) (keyW R c b) r n s a → way_actAt_18 μ f i s j = some a := by
  have hB := BIG_gt
  have hb := hO.r.1
  have hbest : ∀ s a : Int, 0 ≤ s → s < 63 → 0 ≤ r s → lst (thenP R c) (keyW R c b) r s a → way_bestAct μ s = some a := fun s a h1 h2 h0 hl => by
    rw [way_bestAct.eq_1]
    exact cbest hR hO h51 h53 hc hr hG ⟨h1, h2⟩ h0 hl a.toNat BIG 0 (by have := hl.1; omega) (by omega) (by have := hl.1; omega)
  intro n
  induction n with
  | zero =>
    intro f s j hf j1 j2 h1 h2 h0 hA
    obtain ⟨f, rfl⟩ : ∃ g, f = g + 1 := ⟨f - 1, by omega⟩
    rw [way_actAt_18.eq_2, if_pos (by omega), hbest s a h1 h2 h0 hA, Option.bind_some]
  | succ n ih =>
    rintro f s j hf j1 j2 h1 h2 h0 ⟨a0, hl, hA⟩
    obtain ⟨f, rfl⟩ : ∃ g, f = g + 1 := ⟨f - 1, by omega⟩
    have hin := (tkW (c := c) (b := b) hO).tin s a0 h1 h2 hl.1.1 hl.1.2 hl.2.1.1
    rw [way_actAt_18.eq_2, if_neg (by omega), hbest s a0 h1 h2 h0 hl, Option.bind_some, cstand hR hO h51 hc ⟨h1, h2⟩ hl.1, Option.bind_some, wI_id (by omega)]
    exact ih f _ (j + 1) (by omega) (by omega) (by omega) hin.1 hin.2 hl.2.1.2.1 hA
