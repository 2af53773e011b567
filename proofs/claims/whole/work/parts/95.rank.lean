/-! ===== way: ranks ===== -/
def TKs (T K : Int → Int → Int) : Prop := ∀ s a : Int, 0 ≤ s → s < 63 → 0 ≤ a → a < 5 → T s a ≠ -4 → (0 ≤ T s a ∧ T s a < 63) ∧ 1 ≤ K s a ∧ K s a ≤ 9002001 ∧ K s a % 1000 = 1
theorem TKs.tin {T K : Int → Int → Int} (h : TKs T K) (s a : Int) (h1 : 0 ≤ s) (h2 : s < 63) (a1 : 0 ≤ a) (a2 : a < 5) (ht : T s a ≠ -4) : 0 ≤ T s a ∧ T s a < 63 := (h s a h1 h2 a1 a2 ht).1
theorem TKs.kin {T K : Int → Int → Int} (h : TKs T K) (s a : Int) (h1 : 0 ≤ s) (h2 : s < 63) (a1 : 0 ≤ a) (a2 : a < 5) (ht : T s a ≠ -4) : 1 ≤ K s a ∧ K s a ≤ 9002001 ∧ K s a % 1000 = 1 := (h s a h1 h2 a1 a2 ht).2
def Wk (T K : Int → Int → Int) (G : Int → Prop) : Nat → Int → Int → Prop
  | 0, s, v => G s ∧ v = 0
  | k + 1, s, v => ∃ a v' : Int, (0 ≤ a ∧ a < 5) ∧ T s a ≠ -4 ∧ Wk T K G k (T s a) v' ∧ v = v' + K s a
def finX (r : Int → Int) : Int → Bool := fun s => decide (0 ≤ r s)
def Gd (T K : Int → Int → Int) (G : Int → Prop) (r : Int → Int) : Prop := (∀ s : Int, 0 ≤ s → s < 63 → 0 ≤ r s → (∃ k, Wk T K G k s (r s)) ∧ r s ≤ 9002001 * (cntX (finX r) 63 : Int)) ∧ (∀ s : Int, 0 ≤ s → s < 63 → G s → r s = 0)
def Fx (T K : Int → Int → Int) (r : Int → Int) : Prop := ∀ s a : Int, 0 ≤ s → s < 63 → 0 ≤ a → a < 5 → T s a ≠ -4 → 0 ≤ r (T s a) → 0 ≤ r s ∧ r s ≤ r (T s a) + K s a
theorem Gd.top {T K : Int → Int → Int} {G : Int → Prop} {r : Int → Int} (h : Gd T K G r) {s : Int} (h1 : 0 ≤ s) (h2 : s < 63) : r s ≤ 567126063 := by
  by_cases z : 0 ≤ r s
  · have := (h.1 s h1 h2 z).2
    have := cntX_le (finX r) 63
    omega
  · omega
theorem Fx_le {T K : Int → Int → Int} {G : Int → Prop} {r : Int → Int} (hT : TKs T K) (hG : Gd T K G r) (hF : Fx T K r) : ∀ (k : Nat) (s v : Int), 0 ≤ s → s < 63 → Wk T K G k s v → 0 ≤ r s ∧ r s ≤ v := by
  intro k
  induction k with
  | zero =>
    intro s v h1 h2 h
    have := hG.2 s h1 h2 h.1
    have := h.2
    omega
  | succ k ih =>
    rintro s v h1 h2 ⟨a, v', ha, ht, hw, hv⟩
    have hin := hT.tin s a h1 h2 ha.1 ha.2 ht
    have q := ih (T s a) v' hin.1 hin.2 hw
    have := hF s a h1 h2 ha.1 ha.2 ht q.1
    omega
theorem Wk_mod {T K : Int → Int → Int} {G : Int → Prop} (hT : TKs T K) : ∀ (k : Nat) (s v : Int), 0 ≤ s → s < 63 → Wk T K G k s v → (k : Int) ≤ v ∧ v % 1000 = (k : Int) % 1000 := by
  intro k
  induction k with
  | zero =>
    intro s v h1 h2 h
    have := h.2
    omega
  | succ k ih =>
    rintro s v h1 h2 ⟨a, v', ha, ht, hw, hv⟩
    have hin := hT.tin s a h1 h2 ha.1 ha.2 ht
    have hk := hT.kin s a h1 h2 ha.1 ha.2 ht
    have q := ih (T s a) v' hin.1 hin.2 hw
    omega
def updR (r : Int → Int) (s x : Int) : Int → Int := fun t => if t = s then x else r t
def cond (T K : Int → Int → Int) (r : Int → Int) (s a : Int) : Prop := T s a ≠ -4 ∧ 0 ≤ r (T s a) ∧ (r s < 0 ∨ r (T s a) + K s a < r s)
theorem Gd_step {T K : Int → Int → Int} {G : Int → Prop} {r : Int → Int} (hT : TKs T K) (hG : Gd T K G r) {s a : Int} (h1 : 0 ≤ s) (h2 : s < 63) (a1 : 0 ≤ a) (a2 : a < 5) (hc : cond T K r s a) : Gd T K G (updR r s (r (T s a) + K s a)) := by
  obtain ⟨c1, c2, c3⟩ := hc
  have hin := hT.tin s a h1 h2 a1 a2 c1
  have hk := hT.kin s a h1 h2 a1 a2 c1
  have hmono : ∀ i : Int, 0 ≤ i → i < (63 : Nat) → finX r i = true → finX (updR r s (r (T s a) + K s a)) i = true := fun i _ _ q => by
    unfold finX updR at *
    refine decide_eq_true ?_
    have := of_decide_eq_true q
    show 0 ≤ (if i = s then r (T s a) + K s a else r i)
    split <;> omega
  have m1 := cntX_mono (X := finX r) (Y := finX (updR r s (r (T s a) + K s a))) 63 hmono
  obtain ⟨⟨k, hw⟩, hbd⟩ := hG.1 (T s a) hin.1 hin.2 c2
  refine ⟨fun t t1 t2 ht => ?_, fun t t1 t2 ht => ?_⟩
  · have e : updR r s (r (T s a) + K s a) t = if t = s then r (T s a) + K s a else r t := rfl
    by_cases z : t = s
    · rw [if_pos z] at e
      rw [e, z]
      refine ⟨⟨k + 1, a, r (T s a), ⟨a1, a2⟩, c1, hw, rfl⟩, ?_⟩
      by_cases y : r s < 0
      · have := cntX_less (X := finX r) (Y := finX (updR r s (r (T s a) + K s a))) (t := s) 63 hmono h1 (by omega) (by unfold finX; exact decide_eq_false (by omega)) (by unfold finX updR; exact decide_eq_true (by rw [if_pos rfl]; omega))
        omega
      · have := (hG.1 s h1 h2 (by omega)).2
        omega
    · rw [if_neg z] at e
      rw [e] at ht
      rw [e]
      obtain ⟨q1, q2⟩ := hG.1 t t1 t2 ht
      exact ⟨q1, by omega⟩
  · have := hG.2 t t1 t2 ht
    show (if t = s then r (T s a) + K s a else r t) = 0
    by_cases z : t = s
    · rw [z] at this; omega
    · rw [if_neg z]; exact this
def phi (r : Int → Int) : Nat → Int
  | 0 => 0
  | n + 1 => phi r n + (if r (n : Int) < 0 then 600000000 else r (n : Int))
theorem phi_ge (r : Int → Int) : ∀ n : Nat, 0 ≤ phi r n := by
  intro n
  induction n with
  | zero => exact Int.le_refl _
  | succ n ih => rw [phi]; split <;> omega
theorem phi_upd_out {r : Int → Int} {s x : Int} : ∀ n : Nat, (n : Int) ≤ s → phi (updR r s x) n = phi r n := by
  intro n
  induction n with
  | zero => intro _; rfl
  | succ n ih =>
    intro h
    have e : updR r s x (n : Int) = r (n : Int) := if_neg (by omega)
    rw [phi, phi, ih (by omega), e]
theorem phi_upd {r : Int → Int} {s x : Int} (hx : 0 ≤ x) (hlt : r s < 0 ∧ x < 600000000 ∨ x < r s) : ∀ n : Nat, 0 ≤ s → s < n → phi (updR r s x) n + 1 ≤ phi r n := by
  intro n
  induction n with
  | zero => intro h1 h2; omega
  | succ n ih =>
    intro h1 h2
    rw [phi, phi]
    by_cases z : s = (n : Int)
    · have e : updR r s x (n : Int) = x := if_pos z.symm
      rw [e, phi_upd_out n (by omega), ← z, if_neg (by omega)]
      split <;> omega
    · have e : updR r s x (n : Int) = r (n : Int) := if_neg (by omega)
      have := ih h1 (by omega)
      rw [e]; omega
theorem not_Fx {T K : Int → Int → Int} {r : Int → Int} (h : ¬ Fx T K r) : ∃ s a : Int, 0 ≤ s ∧ s < 63 ∧ 0 ≤ a ∧ a < 5 ∧ cond T K r s a := by
  refine Classical.byContradiction (fun n => h (fun s a h1 h2 a1 a2 ht hr => ?_))
  refine Classical.byContradiction (fun q => n ⟨s, a, h1, h2, a1, a2, ht, hr, ?_⟩)
  omega
theorem exd {T K : Int → Int → Int} {G : Int → Prop} (hT : TKs T K) : ∀ (m : Nat) (r : Int → Int), Gd T K G r → phi r 63 ≤ m → ∃ d, Gd T K G d ∧ Fx T K d := by
  intro m
  induction m with
  | zero =>
    intro r hG hm
    by_cases hF : Fx T K r
    · exact ⟨r, hG, hF⟩
    · obtain ⟨s, a, h1, h2, a1, a2, hc⟩ := not_Fx hF
      have hk := hT.kin s a h1 h2 a1 a2 hc.1
      have ht := hG.top (hT.tin s a h1 h2 a1 a2 hc.1).1 (hT.tin s a h1 h2 a1 a2 hc.1).2
      have := phi_upd (r := r) (s := s) (x := r (T s a) + K s a) (by have := hc.2.1; omega) (by have := hc.2.2; omega) 63 h1 (by omega)
      have := phi_ge (updR r s (r (T s a) + K s a)) 63
      omega
  | succ m ih =>
    intro r hG hm
    by_cases hF : Fx T K r
    · exact ⟨r, hG, hF⟩
    · obtain ⟨s, a, h1, h2, a1, a2, hc⟩ := not_Fx hF
      have hk := hT.kin s a h1 h2 a1 a2 hc.1
      have ht := hG.top (hT.tin s a h1 h2 a1 a2 hc.1).1 (hT.tin s a h1 h2 a1 a2 hc.1).2
      have := phi_upd (r := r) (s := s) (x := r (T s a) + K s a) (by have := hc.2.1; omega) (by have := hc.2.2; omega) 63 h1 (by omega)
      exact ih _ (Gd_step hT hG h1 h2 a1 a2 hc) (by omega)
theorem tight_ex {T K : Int → Int → Int} {G : Int → Prop} {d : Int → Int} (hT : TKs T K) (hG : Gd T K G d) (hF : Fx T K d) {s : Int} (h1 : 0 ≤ s) (h2 : s < 63) (hd : 0 ≤ d s) : (G s ∧ d s = 0) ∨ ∃ a : Int, 0 ≤ a ∧ a < 5 ∧ T s a ≠ -4 ∧ 0 ≤ d (T s a) ∧ d s = d (T s a) + K s a := by
  obtain ⟨⟨k, hw⟩, _⟩ := hG.1 s h1 h2 hd
  cases k with
  | zero => left; exact hw
  | succ k =>
    right
    obtain ⟨a, v', ha, ht, hw', hv⟩ := hw
    have hin := hT.tin s a h1 h2 ha.1 ha.2 ht
    have q := Fx_le hT hG hF k (T s a) v' hin.1 hin.2 hw'
    have := hF s a h1 h2 ha.1 ha.2 ht q.1
    exact ⟨a, ha.1, ha.2, ht, q.1, by omega⟩
def belowX (d : Int → Int) (v : Int) : Int → Bool := fun u => decide (0 ≤ d u ∧ d u < v)
theorem len_ex {T K : Int → Int → Int} {G : Int → Prop} {d : Int → Int} (hT : TKs T K) (hG : Gd T K G d) (hF : Fx T K d) : ∀ (n : Nat) (s : Int), 0 ≤ s → s < 63 → 0 ≤ d s → d s < n → ∃ k : Nat, Wk T K G k s (d s) ∧ k ≤ cntX (belowX d (d s)) 63 := by
  intro n
  induction n with
  | zero => intro s _ _ h1 h2; omega
  | succ n ih =>
    intro s h1 h2 hd hn
    rcases tight_ex hT hG hF h1 h2 hd with q | ⟨a, a1, a2, ht, h0, he⟩
    · exact ⟨0, q, Nat.zero_le _⟩
    · have hin := hT.tin s a h1 h2 a1 a2 ht
      have hk := hT.kin s a h1 h2 a1 a2 ht
      obtain ⟨k, k1, k2⟩ := ih (T s a) hin.1 hin.2 h0 (by omega)
      have := cntX_less (X := belowX d (d (T s a))) (Y := belowX d (d s)) (t := T s a) 63 (fun i _ _ q => by
        have := of_decide_eq_true q
        exact decide_eq_true (by omega)) hin.1 (by omega) (decide_eq_false (by omega)) (decide_eq_true (by omega))
      exact ⟨k + 1, ⟨a, d (T s a), ⟨a1, a2⟩, ht, k1, he⟩, by omega⟩
theorem len_62 {T K : Int → Int → Int} {G : Int → Prop} {d : Int → Int} (hT : TKs T K) (hG : Gd T K G d) (hF : Fx T K d) {s : Int} (h1 : 0 ≤ s) (h2 : s < 63) (hd : 0 ≤ d s) : ∃ k : Nat, Wk T K G k s (d s) ∧ k ≤ 62 ∧ d s % 1000 = k := by
  obtain ⟨k, k1, k2⟩ := len_ex hT hG hF ((d s).toNat + 1) s h1 h2 hd (by omega)
  have := cntX_less (X := belowX d (d s)) (Y := fun _ => true) (t := s) 63 (fun _ _ _ _ => rfl) h1 (by omega) (decide_eq_false (by omega)) rfl
  have := cntX_le (fun _ => true) 63
  have := Wk_mod hT k s (d s) h1 h2 k1
  exact ⟨k, k1, by omega, by omega⟩
def eqv (r d : Int → Int) : Prop := ∀ s : Int, 0 ≤ s → s < 63 → (0 ≤ r s ∨ 0 ≤ d s) → r s = d s
theorem eqv_of {T K : Int → Int → Int} {G : Int → Prop} {r d : Int → Int} (hT : TKs T K) (hG : Gd T K G r) (hF : Fx T K r) (hG' : Gd T K G d) (hF' : Fx T K d) : eqv r d := by
  intro s h1 h2 h
  have k1 : 0 ≤ r s → 0 ≤ d s ∧ d s ≤ r s := fun q => by
    obtain ⟨⟨k, hw⟩, _⟩ := hG.1 s h1 h2 q
    exact Fx_le hT hG' hF' k s _ h1 h2 hw
  have k2 : 0 ≤ d s → 0 ≤ r s ∧ r s ≤ d s := fun q => by
    obtain ⟨⟨k, hw⟩, _⟩ := hG'.1 s h1 h2 q
    exact Fx_le hT hG hF k s _ h1 h2 hw
  rcases h with h | h
  · have a1 := k1 h
    have a2 := k2 a1.1
    omega
  · have a1 := k2 h
    have a2 := k1 a1.1
    omega
/-! ===== sweeps ===== -/
def BF (T K : Int → Int → Int) (G : Int → Prop) (k : Nat) (r : Int → Int) : Prop := ∀ j : Nat, j ≤ k → ∀ s v : Int, 0 ≤ s → s < 63 → Wk T K G j s v → 0 ≤ r s ∧ r s ≤ v
def SI (T K : Int → Int → Int) (G : Int → Prop) (r0 r : Int → Int) (on : Int) (P : Int → Int → Prop) : Prop := Gd T K G r ∧ (∀ s : Int, 0 ≤ s → s < 63 → 0 ≤ r0 s → 0 ≤ r s ∧ r s ≤ r0 s) ∧ (∀ s a : Int, P s a → 0 ≤ s → s < 63 → 0 ≤ a → a < 5 → T s a ≠ -4 → 0 ≤ r0 (T s a) → 0 ≤ r s ∧ r s ≤ r0 (T s a) + K s a) ∧ (on = 0 ∧ (∀ s, r s = r0 s) ∨ on = 1 ∧ ¬ Fx T K r0)
theorem SI.keep {T K : Int → Int → Int} {G : Int → Prop} {r0 r : Int → Int} {on : Int} {P Q : Int → Int → Prop} {s a : Int} (hT : TKs T K) (h : SI T K G r0 r on P) (h1 : 0 ≤ s) (h2 : s < 63) (a1 : 0 ≤ a) (a2 : a < 5) (hc : ¬ cond T K r s a) (hQ : ∀ s' a', Q s' a' → P s' a' ∨ s' = s ∧ a' = a) : SI T K G r0 r on Q := by
  obtain ⟨q1, q2, q3, q4⟩ := h
  refine ⟨q1, q2, fun s' a' hq p1 p2 p3 p4 p5 p6 => ?_, q4⟩
  rcases hQ s' a' hq with z | ⟨rfl, rfl⟩
  · exact q3 s' a' z p1 p2 p3 p4 p5 p6
  · have hin := hT.tin s' a' p1 p2 p3 p4 p5
    have := q2 _ hin.1 hin.2 p6
    have : ¬ (r s' < 0 ∨ r (T s' a') + K s' a' < r s') := fun n => hc ⟨p5, this.1, n⟩
    omega
theorem SI.upd {T K : Int → Int → Int} {G : Int → Prop} {r0 r : Int → Int} {on : Int} {P Q : Int → Int → Prop} {s a : Int} (hT : TKs T K) (h : SI T K G r0 r on P) (h1 : 0 ≤ s) (h2 : s < 63) (a1 : 0 ≤ a) (a2 : a < 5) (hc : cond T K r s a) (hQ : ∀ s' a', Q s' a' → P s' a' ∨ s' = s ∧ a' = a) : SI T K G r0 (updR r s (r (T s a) + K s a)) 1 Q := by
  obtain ⟨q1, q2, q3, q4⟩ := h
  have hk := hT.kin s a h1 h2 a1 a2 hc.1
  have hin := hT.tin s a h1 h2 a1 a2 hc.1
  have hc' := hc
  obtain ⟨c1, c2, c3⟩ := hc'
  have le : ∀ t, 0 ≤ r t → 0 ≤ updR r s (r (T s a) + K s a) t ∧ updR r s (r (T s a) + K s a) t ≤ r t := fun t q => by
    show 0 ≤ (if t = s then r (T s a) + K s a else r t) ∧ (if t = s then r (T s a) + K s a else r t) ≤ r t
    by_cases z : t = s
    · rw [if_pos z]; rw [z] at q ⊢; omega
    · rw [if_neg z]; omega
  refine ⟨Gd_step hT q1 h1 h2 a1 a2 hc, fun t t1 t2 q => ?_, fun s' a' hq p1 p2 p3 p4 p5 p6 => ?_, Or.inr ⟨rfl, ?_⟩⟩
  · have := q2 t t1 t2 q
    have := le t this.1
    omega
  · rcases hQ s' a' hq with z | ⟨rfl, rfl⟩
    · have := q3 s' a' z p1 p2 p3 p4 p5 p6
      have := le s' this.1
      omega
    · have := q2 _ hin.1 hin.2 p6
      have e : updR r s' (r (T s' a') + K s' a') s' = r (T s' a') + K s' a' := if_pos rfl
      rw [e]; omega
  · rcases q4 with ⟨_, q⟩ | ⟨_, q⟩
    · intro hF
      have := hF s a h1 h2 a1 a2 c1 (by rw [← q]; exact c2)
      rw [← q, ← q] at this
      omega
    · exact q
theorem SI.start {T K : Int → Int → Int} {G : Int → Prop} {r : Int → Int} {P : Int → Int → Prop} (h : Gd T K G r) (hP : ∀ s a, ¬ P s a) : SI T K G r r 0 P := ⟨h, fun _ _ _ q => ⟨q, Int.le_refl _⟩, fun s a q => absurd q (hP s a), Or.inl ⟨rfl, fun _ => rfl⟩⟩
theorem SI.stop {T K : Int → Int → Int} {G : Int → Prop} {r0 r : Int → Int} {P : Int → Int → Prop} (h : SI T K G r0 r 0 P) (hP : ∀ s a, 0 ≤ s → s < 63 → 0 ≤ a → a < 5 → T s a ≠ -4 → P s a) : Fx T K r := by
  obtain ⟨q1, q2, q3, q4⟩ := h
  rcases q4 with ⟨_, q⟩ | ⟨q, _⟩
  · intro s a h1 h2 a1 a2 ht hr
    have := q3 s a (hP s a h1 h2 a1 a2 ht) h1 h2 a1 a2 ht (by rw [← q]; exact hr)
    rw [← q] at this
    exact this
  · omega
theorem SI.bf {T K : Int → Int → Int} {G : Int → Prop} {r0 r : Int → Int} {on : Int} {P : Int → Int → Prop} {k : Nat} (hT : TKs T K) (h : SI T K G r0 r on P) (hP : ∀ s a, 0 ≤ s → s < 63 → 0 ≤ a → a < 5 → T s a ≠ -4 → P s a) (hB : BF T K G k r0) : BF T K G (k + 1) r := by
  obtain ⟨q1, q2, q3, q4⟩ := h
  intro j hj s v h1 h2 hw
  cases j with
  | zero =>
    have := q1.2 s h1 h2 hw.1
    have := hw.2
    omega
  | succ j =>
    obtain ⟨a, v', ha, ht, hw', hv⟩ := hw
    have hin := hT.tin s a h1 h2 ha.1 ha.2 ht
    have := hB j (by omega) (T s a) v' hin.1 hin.2 hw'
    have := q3 s a (hP s a h1 h2 ha.1 ha.2 ht) h1 h2 ha.1 ha.2 ht this.1
    omega
theorem BF_0 {T K : Int → Int → Int} {G : Int → Prop} {r : Int → Int} (h : Gd T K G r) : BF T K G 0 r := fun j hj s v h1 h2 hw => by
  obtain rfl : j = 0 := by omega
  have := h.2 s h1 h2 hw.1
  have := hw.2
  omega
theorem BF_fx {T K : Int → Int → Int} {G : Int → Prop} {r : Int → Int} {k : Nat} (hT : TKs T K) (hG : Gd T K G r) (hB : BF T K G k r) (hk : 62 ≤ k) : Fx T K r := by
  obtain ⟨d, d1, d2⟩ := exd hT (phi r 63).toNat r hG (by omega)
  have e : ∀ s, 0 ≤ s → s < 63 → (0 ≤ r s ∨ 0 ≤ d s) → r s = d s := fun s h1 h2 h => by
    have k1 : 0 ≤ r s → 0 ≤ d s ∧ d s ≤ r s := fun q => by
      obtain ⟨⟨k, hw⟩, _⟩ := hG.1 s h1 h2 q
      exact Fx_le hT d1 d2 k s _ h1 h2 hw
    have k2 : 0 ≤ d s → 0 ≤ r s ∧ r s ≤ d s := fun q => by
      obtain ⟨j, hw, hj, _⟩ := len_62 hT d1 d2 h1 h2 q
      exact hB j (by omega) s _ h1 h2 hw
    rcases h with h | h
    · have a1 := k1 h
      have a2 := k2 a1.1
      omega
    · have a1 := k2 h
      have a2 := k1 a1.1
      omega
  intro s a h1 h2 a1 a2 ht hr
  have hin := hT.tin s a h1 h2 a1 a2 ht
  have et := e _ hin.1 hin.2 (Or.inl hr)
  have := d2 s a h1 h2 a1 a2 ht (by omega)
  have es := e s h1 h2 (Or.inr this.1)
  omega
/-! ===== the path ===== -/
def tgt (T K : Int → Int → Int) (d : Int → Int) (s a : Int) : Prop := T s a ≠ -4 ∧ 0 ≤ d (T s a) ∧ d (T s a) + K s a = d s
def lst (T K : Int → Int → Int) (d : Int → Int) (s a : Int) : Prop := (0 ≤ a ∧ a < 5) ∧ tgt T K d s a ∧ ∀ b : Int, 0 ≤ b → b < a → ¬ tgt T K d s b
def At (T K : Int → Int → Int) (d : Int → Int) : Nat → Int → Int → Prop
  | 0, s, a => lst T K d s a
  | n + 1, s, a => ∃ a0, lst T K d s a0 ∧ At T K d n (T s a0) a
theorem lst_ex {T K : Int → Int → Int} {d : Int → Int} {s : Int} : ∀ (n : Nat) (a : Int), 0 ≤ a → a < 5 → a < n → tgt T K d s a → ∃ b, lst T K d s b := by
  intro n
  induction n with
  | zero => intro a h1 _ h2; omega
  | succ n ih =>
    intro a h1 h2 hn ht
    by_cases z : ∃ b : Int, 0 ≤ b ∧ b < a ∧ tgt T K d s b
    · obtain ⟨b, b1, b2, b3⟩ := z
      exact ih b b1 (by omega) (by omega) b3
    · exact ⟨a, ⟨h1, h2⟩, ht, fun b b1 b2 b3 => z ⟨b, b1, b2, b3⟩⟩
theorem At_ex {T K : Int → Int → Int} {G : Int → Prop} {d : Int → Int} (hT : TKs T K) (hG : Gd T K G d) (hF : Fx T K d) : ∀ (n : Nat) (s : Int), 0 ≤ s → s < 63 → 0 ≤ d s → (n : Int) < d s % 1000 → ∃ a, At T K d n s a := by
  intro n
  induction n with
  | zero =>
    intro s h1 h2 hd hn
    rcases tight_ex hT hG hF h1 h2 hd with q | ⟨a, a1, a2, ht, h0, he⟩
    · omega
    · exact lst_ex 5 a a1 a2 (by omega) ⟨ht, h0, he.symm⟩
  | succ n ih =>
    intro s h1 h2 hd hn
    rcases tight_ex hT hG hF h1 h2 hd with q | ⟨a, a1, a2, ht, h0, he⟩
    · omega
    · obtain ⟨b, hb⟩ := lst_ex (T := T) (K := K) (d := d) (s := s) 5 a a1 a2 (by omega) ⟨ht, h0, he.symm⟩
      have hin := hT.tin s b h1 h2 hb.1.1 hb.1.2 hb.2.1.1
      have hk := hT.kin s b h1 h2 hb.1.1 hb.1.2 hb.2.1.1
      have hv := hb.2.1.2.2
      obtain ⟨x, hx⟩ := ih (T s b) hin.1 hin.2 hb.2.1.2.1 (by omega)
      exact ⟨x, b, hb, hx⟩
theorem At_eqv {T K : Int → Int → Int} {r d : Int → Int} (hT : TKs T K) (he : eqv r d) : ∀ (n : Nat) (s a : Int), 0 ≤ s → s < 63 → 0 ≤ r s → At T K r n s a → At T K d n s a := by
  have ht : ∀ s b : Int, 0 ≤ s → s < 63 → 0 ≤ b → b < 5 → 0 ≤ r s → (tgt T K r s b ↔ tgt T K d s b) := fun s b h1 h2 b1 b2 hs => by
    have es := he s h1 h2 (Or.inl hs)
    constructor
    · rintro ⟨q1, q2, q3⟩
      have hin := hT.tin s b h1 h2 b1 b2 q1
      have := he _ hin.1 hin.2 (Or.inl q2)
      exact ⟨q1, by omega, by omega⟩
    · rintro ⟨q1, q2, q3⟩
      have hin := hT.tin s b h1 h2 b1 b2 q1
      have := he _ hin.1 hin.2 (Or.inr q2)
      exact ⟨q1, by omega, by omega⟩
  have hl : ∀ s b : Int, 0 ≤ s → s < 63 → 0 ≤ r s → lst T K r s b → lst T K d s b := fun s b h1 h2 hs h => ⟨h.1, (ht s b h1 h2 h.1.1 h.1.2 hs).mp h.2.1, fun x x1 x2 q => h.2.2 x x1 x2 ((ht s x h1 h2 x1 (by have := h.1.2; omega) hs).mpr q)⟩
  intro n
  induction n with
  | zero => intro s a h1 h2 hs h; exact hl s a h1 h2 hs h
  | succ n ih =>
    rintro s a h1 h2 hs ⟨b, hb, hx⟩
    have hin := hT.tin s b h1 h2 hb.1.1 hb.1.2 hb.2.1.1
    exact ⟨b, hl s b h1 h2 hs hb, ih _ a hin.1 hin.2 hb.2.1.2.1 hx⟩
