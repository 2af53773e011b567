/-! ===== way, the reference's side ===== -/
def M83 (a _j : Nat) : Prop := a = 83
theorem MC.way {μ μ' : Mem} {R : Rd} (h : Off M83 μ μ') (H : MC μ 0 R) : MC μ' 0 R := H.off (h _ _ (by unfold M83; omega)) (fun a h1 h2 h3 => h.cell (fun j => by unfold M83; omega))
theorem mkey {ν : Mem} {R : Rd} {c b s a : Int} (hM : MC ν 0 R) (hO : Ok R) (hc : 0 ≤ c ∧ c < R 0 1) (hs : 0 ≤ s ∧ s < 3 * R 0 0 + 3) (ha : 0 ≤ a ∧ a < 5) (ht : thenP R c s a ≠ -4) : mod_keyOf ν c s a b = some (keyW R c b s a) := by
  have hb := hO.r.1
  have hin := (thenP_in (R := R) (c := c) (s := s) (act := a) (by omega) hs.1 ha).resolve_left ht
  have hco := coinsW_in hO ⟨hs.1, by omega⟩ ha ht
  have hh := hoursW_in (R := R) (c := c) (a := a)
  have e1 : mod_coinsOf ν c s a = some (coinsW R c s a) := by
    rw [mod_coinsOf.eq_1]
    unfold coinsW
    by_cases z : 1 < a
    · rw [if_neg (by omega), if_pos z, iDiv_eq (by omega) (by omega), ld_ok (by omega), Option.bind_some, hM.2.2.1 (s / 3) (by omega) (by omega)]
    · rw [if_pos (by omega), if_neg z, mpart hM (by omega) (by omega), Option.bind_some, mthen hM hO hc hs ha, Option.bind_some, ld_ok (by omega), Option.bind_some, hM.2.2.2.2.1 _ hin.1.1 hin.1.2]
      unfold tollP
      split <;> rfl
  have e2 : mod_hoursOf ν c a = some (hoursW R c a) := by
    rw [mod_hoursOf.eq_1]
    unfold hoursW
    by_cases z : 2 ≤ a
    · rw [if_pos z, if_neg (by omega)]
    · rw [if_neg z, mpart hM (by omega) (by omega), Option.bind_some]
      by_cases y : pt R c 0 = 2
      · rw [if_pos y, if_pos ⟨by omega, y⟩]
      · rw [if_neg y, if_neg (fun q => y q.2)]
  rw [mod_keyOf.eq_1, e1, Option.bind_some, e2, Option.bind_some]
  unfold keyW
  by_cases z : b = 0
  · rw [if_pos z, if_pos z, wI_id (x := 1000000 * coinsW R c s a) (by omega), wI_id (x := 1000 * hoursW R c a) (by omega), wI_id (x := 1000000 * coinsW R c s a + 1000 * hoursW R c a) (by omega), wI_id (by omega)]
  · rw [if_neg z, if_neg z, wI_id (x := 1000000 * hoursW R c a) (by omega), wI_id (x := 1000 * coinsW R c s a) (by omega), wI_id (x := 1000000 * hoursW R c a + 1000 * coinsW R c s a) (by omega), wI_id (by omega)]
def PM (s a s' a' : Int) : Prop := s' < s ∨ s' = s ∧ a' < a
theorem mfind66 {R : Rd} {c b s : Int} {G : Int → Prop} {r0 : Int → Int} (hO : Ok R) (hc : 0 ≤ c ∧ c < R 0 1) (hs : 0 ≤ s ∧ s < 3 * R 0 0 + 3) (K : Int → Int → Int → Int → Mem → Option Mem) : ∀ (m f : Nat) (a on : Int) (r : Int → Int) (ν : Mem), m < f → 0 ≤ a → a + m = 5 → MC ν 0 R → rW 1000000000 83 r ν → SI (thenP R c) (keyW R c b) G r0 r on (PM s a) → ∃ on' r' ν', mod_findLeast_66 K f c b on s a ν = K c b on' (s + 1) ν' ∧ Off M83 ν ν' ∧ rW 1000000000 83 r' ν' ∧ SI (thenP R c) (keyW R c b) G r0 r' on' (PM s 5) := by
  have hb := hO.r.1
  have hT := tkW (c := c) (b := b) hO
  intro m
  induction m with
  | zero =>
    intro f a on r ν hf h0 he hM hr hS
    obtain ⟨f, rfl⟩ : ∃ g, f = g + 1 := ⟨f - 1, by omega⟩
    have ha : a = 5 := by omega
    exact ⟨on, r, ν, by rw [mod_findLeast_66.eq_2, if_pos (by omega), wI_id (by omega)], Off.rf, hr, by rw [← ha]; exact hS⟩
  | succ m ih =>
    intro f a on r ν hf h0 he hM hr hS
    obtain ⟨f, rfl⟩ : ∃ g, f = g + 1 := ⟨f - 1, by omega⟩
    have hQ : ∀ s' a', PM s (a + 1) s' a' → PM s a s' a' ∨ s' = s ∧ a' = a := fun s' a' q => by unfold PM at *; omega
    have nx : ∀ (on1 : Int) (r1 : Int → Int) (ν1 : Mem), Off M83 ν ν1 → rW 1000000000 83 r1 ν1 → SI (thenP R c) (keyW R c b) G r0 r1 on1 (PM s (a + 1)) → ∃ on' r' ν', mod_findLeast_158 (mod_findLeast_66 K f) c b on1 s a ν1 = K c b on' (s + 1) ν' ∧ Off M83 ν ν' ∧ rW 1000000000 83 r' ν' ∧ SI (thenP R c) (keyW R c b) G r0 r' on' (PM s 5) := fun on1 r1 ν1 q1 q2 q3 => by
      obtain ⟨on', r', ν', k1, k2, k3, k4⟩ := ih f (a + 1) on1 r1 ν1 (by omega) (by omega) (by omega) (hM.way q1) q2 q3
      exact ⟨on', r', ν', by rw [mod_findLeast_158.eq_1, wI_id (by omega)]; exact k1, q1.tr k2, k3, k4⟩
    rw [mod_findLeast_66.eq_2, if_neg (by omega), mthen hM hO hc hs ⟨h0, by omega⟩, Option.bind_some]
    by_cases z : thenP R c s a = -4
    · rw [if_pos z]
      exact nx on r ν Off.rf hr (hS.keep hT hs.1 (by omega) h0 (by omega) (fun q => q.1 z) hQ)
    · have hin := hT.tin s a hs.1 (by omega) h0 (by omega) z
      have hk := hT.kin s a hs.1 (by omega) h0 (by omega) z
      have htop := hS.1.top hin.1 hin.2
      have stop := hS.1.top hs.1 (by omega)
      rw [if_neg z, ld_ok (by omega), Option.bind_some, hr _ hin.1 hin.2]
      by_cases y : r (thenP R c s a) < 0
      · rw [if_pos y, if_pos rfl]
        exact nx on r ν Off.rf hr (hS.keep hT hs.1 (by omega) h0 (by omega) (fun q => by have := q.2.1; omega) hQ)
      · rw [if_neg y, if_neg (by omega), Option.bind_some, mkey hM hO hc hs ⟨h0, by omega⟩ z, Option.bind_some, ld_ok (by omega), Option.bind_some, Option.bind_some, Option.bind_some, wI_id (by omega), stx_ok (by omega), Option.bind_some, hr s hs.1 (by omega)]
        by_cases x : r s < 0 ∨ r (thenP R c s a) + keyW R c b s a < r s
        · have lt : ¬ (if r s < 0 then 1000000000 else r s) ≤ r (thenP R c s a) + keyW R c b s a := by split <;> omega
          rw [if_neg lt]
          refine nx 1 _ _ (Off.rf.set (by unfold M83; omega)) (fun t t1 t2 => ?_) (hS.upd hT hs.1 (by omega) h0 (by omega) ⟨z, by omega, x⟩ hQ)
          rw [mset_ap]
          show _ = if (if t = s then r (thenP R c s a) + keyW R c b s a else r t) < 0 then 1000000000 else (if t = s then r (thenP R c s a) + keyW R c b s a else r t)
          by_cases e : t = s
          · rw [if_pos ⟨rfl, by rw [e]⟩, if_pos e, if_neg (by omega)]
          · rw [if_neg (by omega), if_neg e]; exact hr t t1 t2
        · have ge : (if r s < 0 then 1000000000 else r s) ≤ r (thenP R c s a) + keyW R c b s a := by rw [if_neg (by omega)]; omega
          rw [if_pos ge]
          exact nx on r ν Off.rf hr (hS.keep hT hs.1 (by omega) h0 (by omega) (fun q => x q.2.2) hQ)
theorem mfind50 {R : Rd} {c b : Int} {G : Int → Prop} {r0 : Int → Int} (hO : Ok R) (hc : 0 ≤ c ∧ c < R 0 1) (K : Int → Int → Int → Mem → Option Mem) : ∀ (m f : Nat) (s on : Int) (r : Int → Int) (ν : Mem), m < f → 0 ≤ s → s + m = 3 * R 0 0 + 3 → MC ν 0 R → rW 1000000000 83 r ν → SI (thenP R c) (keyW R c b) G r0 r on (PM s 0) → ∃ on' r' ν', mod_findLeast_50 K f c b on s ν = K c b on' ν' ∧ Off M83 ν ν' ∧ rW 1000000000 83 r' ν' ∧ SI (thenP R c) (keyW R c b) G r0 r' on' (PM (3 * R 0 0 + 3) 0) := by
  have hb := hO.r.1
  have hB := BIG_gt
  intro m
  induction m with
  | zero =>
    intro f s on r ν hf h0 he hM hr hS
    obtain ⟨f, rfl⟩ : ∃ g, f = g + 1 := ⟨f - 1, by omega⟩
    refine ⟨on, r, ν, ?_, Off.rf, hr, ?_⟩
    · rw [mod_findLeast_50.eq_2, hM.1.1, wI_id (x := 3 * R 0 0) (by omega), wI_id (by omega), if_pos (by omega)]
    · rw [← show s = 3 * R 0 0 + 3 by omega]; exact hS
  | succ m ih =>
    intro f s on r ν hf h0 he hM hr hS
    obtain ⟨f, rfl⟩ : ∃ g, f = g + 1 := ⟨f - 1, by omega⟩
    obtain ⟨on1, r1, ν1, k1, k2, k3, k4⟩ := mfind66 hO hc (s := s) ⟨h0, by omega⟩ (mod_findLeast_50 K f) 5 BIG 0 on r ν (by omega) (by omega) (by omega) hM hr hS
    have k5 : SI (thenP R c) (keyW R c b) G r0 r1 on1 (PM (s + 1) 0) := ⟨k4.1, k4.2.1, fun s' a' q p1 p2 p3 p4 => k4.2.2.1 s' a' (by unfold PM at *; omega) p1 p2 p3 p4, k4.2.2.2⟩
    obtain ⟨on', r', ν', x1, x2, x3, x4⟩ := ih f (s + 1) on1 r1 ν1 (by omega) (by omega) (by omega) (hM.way k2) k3 k5
    refine ⟨on', r', ν', ?_, k2.tr x2, x3, x4⟩
    rw [mod_findLeast_50.eq_2, hM.1.1, wI_id (x := 3 * R 0 0) (by omega), wI_id (x := 3 * R 0 0 + 3) (by omega), if_neg (by omega), k1, x1]
theorem mfind41 {R : Rd} {c b : Int} {G : Int → Prop} (hO : Ok R) (hc : 0 ≤ c ∧ c < R 0 1) : ∀ (m f : Nat) (k : Nat) (on : Int) (r : Int → Int) (ν : Mem), m < f → k + m = 64 → MC ν 0 R → rW 1000000000 83 r ν → Gd (thenP R c) (keyW R c b) G r → BF (thenP R c) (keyW R c b) G k r → (on = 0 ∧ Fx (thenP R c) (keyW R c b) r ∨ on = 1 ∧ k ≤ 62) → ∃ r' ν', mod_findLeast_41 f c b on ν = some ν' ∧ Off M83 ν ν' ∧ rW 1000000000 83 r' ν' ∧ Gd (thenP R c) (keyW R c b) G r' ∧ Fx (thenP R c) (keyW R c b) r' := by
  have hB := BIG_gt
  have hb := hO.r.1
  have hT := tkW (c := c) (b := b) hO
  obtain ⟨n, hn⟩ : ∃ n : Nat, (n : Int) = 3 * R 0 0 + 3 := ⟨(3 * R 0 0 + 3).toNat, by omega⟩
  intro m
  induction m with
  | zero =>
    intro f k on r ν hf he hM hr hG hBF hon
    obtain ⟨f, rfl⟩ : ∃ g, f = g + 1 := ⟨f - 1, by omega⟩
    rcases hon with ⟨q1, q2⟩ | ⟨q1, q2⟩
    · exact ⟨r, ν, by rw [mod_findLeast_41.eq_2, if_pos q1], Off.rf, hr, hG, q2⟩
    · omega
  | succ m ih =>
    intro f k on r ν hf he hM hr hG hBF hon
    obtain ⟨f, rfl⟩ : ∃ g, f = g + 1 := ⟨f - 1, by omega⟩
    rcases hon with ⟨q1, q2⟩ | ⟨q1, q2⟩
    · exact ⟨r, ν, by rw [mod_findLeast_41.eq_2, if_pos q1], Off.rf, hr, hG, q2⟩
    · obtain ⟨on1, r1, ν1, k1, k2, k3, k4'⟩ := mfind50 hO hc (mod_findLeast_41 f) n BIG 0 0 r ν (by omega) (by omega) (by omega) hM hr (SI.start (P := fun s a => PM 0 0 s a ∧ 0 ≤ s ∧ 0 ≤ a) hG (fun s a q => by have := q.1; unfold PM at this; omega) |> fun h => ⟨h.1, h.2.1, fun s a q p1 p2 p3 p4 => by unfold PM at q; omega, h.2.2.2⟩)
      have k4 := k4'
      have hall : ∀ s a, 0 ≤ s → s < 63 → 0 ≤ a → a < 5 → thenP R c s a ≠ -4 → PM (3 * R 0 0 + 3) 0 s a := fun s a h1 h2 a1 a2 ht => by
        refine Or.inl (Decidable.byContradiction (fun q => ht ?_))
        unfold thenP
        rw [if_pos (by omega)]
      obtain ⟨r', ν', x1, x2, x3, x4, x5⟩ := ih f (k + 1) on1 r1 ν1 (by omega) (by omega) (hM.way k2) k3 k4.1 (k4.bf hT hall hBF) (by
        rcases k4.2.2.2 with ⟨p1, _⟩ | ⟨p1, p2⟩
        · left
          refine ⟨p1, ?_⟩
          rw [p1] at k4
          exact k4.stop hall
        · right
          refine ⟨p1, ?_⟩
          refine Decidable.byContradiction (fun n => p2 (BF_fx hT hG hBF (by omega))))
      refine ⟨r', ν', ?_, k2.tr x2, x3, x4, x5⟩
      rw [mod_findLeast_41.eq_2, if_neg (by omega), k1, x1]
theorem mfind2 {R : Rd} {c b : Int} (hO : Ok R) (hc : 0 ≤ c ∧ c < R 0 1) : ∀ (m f : Nat) (i : Int) (ν : Mem), m < f → 0 ≤ i → i + m = 63 → MC ν 0 R → (∀ t : Int, 0 ≤ t → t < i → ν 83 t.toNat = if t / 3 = pt R c 5 then 0 else 1000000000) → ∃ ν', mod_findLeast_2 f c b i ν = mod_findLeast_41 BIG c b 1 ν' ∧ Off M83 ν ν' ∧ (∀ t : Int, 0 ≤ t → t < 63 → ν' 83 t.toNat = if t / 3 = pt R c 5 then 0 else 1000000000) := by
  have hb := hO.r.1
  have hpc := hO.2.2.2.2.2.2.1 c hc.1 hc.2
  intro m
  induction m with
  | zero =>
    intro f i ν hf h0 he hM hr
    obtain ⟨f, rfl⟩ : ∃ g, f = g + 1 := ⟨f - 1, by omega⟩
    exact ⟨ν, by rw [mod_findLeast_2.eq_2, if_pos (by omega)], Off.rf, fun t t1 t2 => hr t t1 (by omega)⟩
  | succ m ih =>
    intro f i ν hf h0 he hM hr
    obtain ⟨f, rfl⟩ : ∃ g, f = g + 1 := ⟨f - 1, by omega⟩
    have nx : ∀ v : Int, v = (if i / 3 = pt R c 5 then 0 else 1000000000) → ∃ ν', mod_findLeast_32 (mod_findLeast_2 f) c b i i v ν = mod_findLeast_41 BIG c b 1 ν' ∧ Off M83 ν ν' ∧ (∀ t : Int, 0 ≤ t → t < 63 → ν' 83 t.toNat = if t / 3 = pt R c 5 then 0 else 1000000000) := fun v hv => by
      have o : Off M83 ν (mset ν 83 i.toNat v) := Off.rf.set (by unfold M83; omega)
      obtain ⟨ν', k1, k2, k3⟩ := ih f (i + 1) (mset ν 83 i.toNat v) (by omega) (by omega) (by omega) (hM.way o) (fun t t1 t2 => by
        rw [mset_ap]
        by_cases e : t = i
        · rw [if_pos ⟨rfl, by rw [e]⟩, e, hv]
        · rw [if_neg (by omega)]; exact hr t t1 (by omega))
      exact ⟨ν', by rw [mod_findLeast_32.eq_1, stx_ok (by omega), Option.bind_some, wI_id (by omega)]; exact k1, o.tr k2, k3⟩
    rw [mod_findLeast_2.eq_2, if_neg (by omega), mpart hM (by omega) (by omega), Option.bind_some, iDiv_eq (by omega) (by omega)]
    by_cases z : i / 3 = pt R c 5
    · rw [if_pos z]
      exact nx 0 (by rw [if_pos z])
    · rw [if_neg z]
      exact nx 1000000000 (by rw [if_neg z])
theorem mfind {ν : Mem} {R : Rd} {c b : Int} (hM : MC ν 0 R) (hO : Ok R) (hc : 0 ≤ c ∧ c < R 0 1) : ∃ r ν', mod_findLeast c b ν = some ν' ∧ Off M83 ν ν' ∧ rW 1000000000 83 r ν' ∧ Gd (thenP R c) (keyW R c b) (gW R c) r ∧ Fx (thenP R c) (keyW R c b) r := by
  have hB := BIG_gt
  obtain ⟨ν1, k1, k2, k3⟩ := mfind2 (b := b) hO hc 63 BIG 0 ν (by omega) (by omega) (by omega) hM (fun t t1 t2 => by omega)
  obtain ⟨r, ν', x1, x2, x3, x4, x5⟩ := mfind41 (b := b) (G := gW R c) hO hc 64 BIG 0 1 (r0W R c) ν1 (by omega) (by omega) (hM.way k2) (fun t t1 t2 => by
    rw [k3 t t1 t2]
    unfold r0W
    by_cases z : t / 3 = pt R c 5
    · rw [if_pos z, if_pos z, if_neg (by omega)]
    · rw [if_neg z, if_neg z, if_pos (by omega)]) Gd_0 (BF_0 Gd_0) (Or.inr ⟨rfl, by omega⟩)
  exact ⟨r, ν', by rw [mod_findLeast.eq_1, k1, x1], k2.tr x2, x3, x4, x5⟩
theorem mway162 {ν : Mem} {R : Rd} {c b s : Int} {G : Int → Prop} {r : Int → Int} (hM : MC ν 0 R) (hO : Ok R) (hc : 0 ≤ c ∧ c < R 0 1) (hr : rW 1000000000 83 r ν) (hG : Gd (thenP R c) (keyW R c b) G r) (hs : 0 ≤ s ∧ s < 3 * R 0 0 + 3) (h0 : 0 ≤ r s) {a : Int} (hl : lst (thenP R c) (keyW R c b) r s a) (x3 j : Int) (hj : 0 ≤ j ∧ j < 100000) (K : Int → Int → Int → Int → Int → Int → Mem → Option (Int × Mem)) : ∀ (m f : Nat) (x fd : Int), m < f → x + 1 = m → x < 5 → (a ≤ x ∨ fd = a) → mod_way_162 K f c b x3 s fd j x ν = K c b x3 (thenP R c s a) a (j + 1) ν := by
  have hb := hO.r.1
  have hT := tkW (c := c) (b := b) hO
  have ha := hl.1
  have hcell : ν 83 s.toNat = r s := by rw [hr s hs.1 (by omega), if_neg (by omega)]
  have stop := hG.top hs.1 (by omega)
  intro m
  induction m with
  | zero =>
    intro f x fd hf hx h5 hfd
    obtain ⟨f, rfl⟩ : ∃ g, f = g + 1 := ⟨f - 1, by omega⟩
    have e : fd = a := by omega
    rw [mod_way_162.eq_2, if_pos (by omega), e, mthen hM hO hc hs ha, Option.bind_some, wI_id (by omega)]
  | succ m ih =>
    intro f x fd hf hx h5 hfd
    obtain ⟨f, rfl⟩ : ∃ g, f = g + 1 := ⟨f - 1, by omega⟩
    have e231 : ∀ o fd' : Int, (o = 0 ∧ fd' = fd ∨ o = 1 ∧ fd' = x) → mod_way_231 (mod_way_162 K f) c b x3 s fd j x o ν = mod_way_162 K f c b x3 s fd' j (x - 1) ν := fun o fd' ho => by
      rw [mod_way_231.eq_1, mod_way_245.eq_1, mod_way_245.eq_1, wI_id (by omega), show x + -1 = x - 1 by omega]
      rcases ho with ⟨q1, q2⟩ | ⟨q1, q2⟩
      · rw [if_pos q1, q2]
      · rw [if_neg (by omega), q2]
    have no : ¬ tgt (thenP R c) (keyW R c b) r s x → mod_way_231 (mod_way_162 K f) c b x3 s fd j x 0 ν = K c b x3 (thenP R c s a) a (j + 1) ν := fun hn => by
      rw [e231 0 fd (Or.inl ⟨rfl, rfl⟩)]
      have : x ≠ a := fun q => hn (by rw [q]; exact hl.2.1)
      exact ih f (x - 1) fd (by omega) (by omega) (by omega) (by omega)
    rw [mod_way_162.eq_2, if_neg (by omega), mthen hM hO hc hs ⟨by omega, h5⟩, Option.bind_some]
    by_cases z : thenP R c s x = -4
    · rw [if_pos z]
      exact no (fun q => q.1 z)
    · have hin := hT.tin s x hs.1 (by omega) (by omega) h5 z
      have hk := hT.kin s x hs.1 (by omega) (by omega) h5 z
      have htop := hG.top hin.1 hin.2
      rw [if_neg z, ld_ok (by omega), Option.bind_some, hr _ hin.1 hin.2]
      by_cases y : r (thenP R c s x) < 0
      · rw [if_pos y, if_pos rfl]
        exact no (fun q => by have := q.2.1; omega)
      · rw [if_neg y, if_neg (by omega), Option.bind_some, mkey hM hO hc hs ⟨by omega, h5⟩ z, Option.bind_some, ld_ok (by omega), Option.bind_some, hcell, wI_id (by omega)]
        by_cases w : r (thenP R c s x) + keyW R c b s x = r s
        · rw [if_pos w, e231 1 x (Or.inr ⟨rfl, rfl⟩)]
          have : ¬ x < a := fun q => hl.2.2 x (by omega) q ⟨z, by omega, w⟩
          exact ih f (x - 1) x (by omega) (by omega) (by omega) (by omega)
        · rw [if_neg w]
          exact no (fun q => w q.2.2)
theorem mway146 {ν : Mem} {R : Rd} {c b : Int} {G : Int → Prop} {r : Int → Int} (hM : MC ν 0 R) (hO : Ok R) (hc : 0 ≤ c ∧ c < R 0 1) (hr : rW 1000000000 83 r ν) (hG : Gd (thenP R c) (keyW R c b) G r) (x3 : Int) (hx : 10 ≤ x3 ∧ x3 < 2000) {a : Int} : ∀ (n f : Nat) (s fd j : Int), n + 1 < f → 0 ≤ j → j + n = x3 - 10 → 0 ≤ s → s < 3 * R 0 0 + 3 → 0 ≤ r s → At (thenP R c) (keyW R c b) r n s a → mod_way_146 f c b x3 s fd j ν = some (a, ν) := by
  have hB := BIG_gt
  have hb := hO.r.1
  intro n
  induction n with
  | zero =>
    intro f s fd j hf j1 j2 h1 h2 h0 hA
    obtain ⟨f, rfl⟩ : ∃ g, f = g + 2 := ⟨f - 2, by omega⟩
    have hA' : lst (thenP R c) (keyW R c b) r s a := hA
    rw [mod_way_146.eq_2, wI_id (by omega), if_neg (by omega), mway162 hM hO hc hr hG ⟨h1, h2⟩ h0 hA' x3 j (by omega) _ 5 BIG 4 (-4) (by omega) (by omega) (by omega) (by have := hA'.1; omega), mod_way_146.eq_2, wI_id (by omega), if_pos (by omega)]
  | succ n ih =>
    rintro f s fd j hf j1 j2 h1 h2 h0 ⟨a0, hl, hA⟩
    obtain ⟨f, rfl⟩ : ∃ g, f = g + 1 := ⟨f - 1, by omega⟩
    have hin := (thenP_in (R := R) (c := c) (s := s) (act := a0) (by omega) h1 hl.1).resolve_left hl.2.1.1
    rw [mod_way_146.eq_2, wI_id (by omega), if_neg (by omega), mway162 hM hO hc hr hG ⟨h1, h2⟩ h0 hl x3 j (by omega) _ 5 BIG 4 (-4) (by omega) (by omega) (by omega) (by have := hl.1; omega)]
    exact ih f _ _ (j + 1) (by omega) (by omega) (by omega) hin.1.1 (by omega) hl.2.1.2.1 hA
