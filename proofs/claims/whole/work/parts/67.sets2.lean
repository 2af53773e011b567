theorem mset_same {μ : Mem} {k i : Nat} {v : Int} : mset μ k i v k i = v := by rw [mset_ap, if_pos ⟨rfl, rfl⟩]
theorem mset_ne {μ : Mem} {k i k' i' : Nat} {v : Int} (h : ¬ (k' = k ∧ i' = i)) : mset μ k i v k' i' = μ k' i' := by rw [mset_ap, if_neg h]
theorem pd_comm {μ : Mem} {a i : Nat} {v : Int} (h : a ≠ 46) : pdM (mset μ a i v) = mset (pdM μ) a i v := by
  funext k j
  unfold pdM
  simp only [mset]
  by_cases h1 : k = 46 ∧ j = 5
  · rw [if_pos h1, if_neg (by omega), if_pos h1]
  · rw [if_neg h1]
    by_cases h2 : k = 46 ∧ j = 4
    · rw [if_pos h2, if_neg (by omega), if_neg h1, if_pos h2]
    · rw [if_neg h2, if_neg h1, if_neg h2]
theorem setFrost_eq {r : Nat} {μ : Mem} {f h : Nat} {x : Int} (hf : μ r 8 = (f : Int)) (hb : f < 2305843009213693952) (hh : h < 61) (hx : x = 0 ∨ x = 1) : ∃ g : Nat, roa_setFrost r (h : Int) x μ = some (mset μ r 8 (g : Int)) ∧ g < 2305843009213693952 ∧ ∀ i : Nat, g.testBit i = if i = h then decide (x = 1) else f.testBit i := by
  unfold roa_setFrost roa_setFrost_28 bnd
  rcases hx with hx | hx <;> subst hx
  · obtain ⟨g, g1, g2, g3⟩ := l_clear (f := f) (h := h) (by omega) (by omega)
    refine ⟨g, ?_, by omega, fun i => ?_⟩
    · rw [if_pos rfl, hf, g1]
    · rw [g3]
      by_cases z : i = h <;> simp [z]
  · obtain ⟨g, g1, g2, g3⟩ := lSet (b := f) (i := h) (by omega) (by omega)
    refine ⟨g, ?_, ?_, fun i => ?_⟩
    · rw [if_neg (by omega), hf, g1]
    · rw [g2]
      exact Nat.or_lt_two_pow (n := 61) hb (Nat.pow_lt_pow_right (by omega) hh)
    · rw [g3]
      by_cases z : i = h <;> simp [z]
theorem E_freeze_ok : E_freeze Inv := by
  intro μ H x1 x2 g1 g2
  obtain ⟨hR, hM, hO, hT⟩ := H.R
  by_cases h1 : 1 ≤ x1 ∧ x1 ≤ 60
  · obtain ⟨f, f1, f2, f3⟩ := hR.2.2.2.2.2.2.2.2.1
    obtain ⟨e1, e2⟩ := H.fro (h := x1) (by omega)
    obtain ⟨h, rfl⟩ : ∃ h : Nat, x1 = (h : Int) := ⟨x1.toNat, by omega⟩
    obtain ⟨g, s1, s2, s3⟩ := setFrost_eq (x := x2) f1 f2 (show h < 61 by omega) g2
    rw [Int.toNat_natCast] at e1 e2
    refine ⟨μ 62 (0 + 99 + h), mset (pdM μ) 1 8 (g : Int), mset (mset (pdM μ) 1 8 (g : Int)) 62 (0 + 99 + (h : Int).toNat) x2, ?_, ?_, ?_⟩
    · unfold ww_freeze ww_freeze_25
      rw [isHour_eq, tT h1, e1, Option.bind_some]
      simp only [s1, drop_eq, Option.bind_some, pd_comm (show (1 : Nat) ≠ 46 by omega)]
      rcases e2 with e2 | e2 <;> rw [e2] <;> rfl
    · have q : ∀ b, 61 ≤ b → mset (pdM μ) 1 8 (g : Int) b = μ b := fun b hb => by rw [mset_off (by omega), pd_off _ _ (by omega)]
      unfold mod_freeze
      rw [mIsHour_eq, tT h1, wI_id (x := 99 + (h : Int)) (by omega), ld_ok (by omega), Option.bind_some, flag_eq, Option.bind_some, stx_ok (by omega), Option.bind_some, q 62 (by omega), show (99 + (h : Int)).toNat = 0 + 99 + h by omega, Int.toNat_natCast]
      rcases g2 with g2 | g2 <;> subst g2 <;> rfl
    · refine H.chg (by omega) (by omega) (RC.set8 (r := 1) (v := x2) s2 (fun i hi => ?_) hR.pd) (MC.set8 (by omega) hT (hM.pd.cls (by omega))) (hO.set8 g2)
      rw [s3, f3 i hi]
  · refine ⟨-1, μ, μ, ?_, ?_, H⟩
    · unfold ww_freeze
      rw [isHour_eq, tF h1]
    · unfold mod_freeze
      rw [mIsHour_eq, tF h1]
theorem E_price_ok : E_price Inv := by
  intro μ H x1 x2 g1 g2
  obtain ⟨hR, hM, hO, hT⟩ := H.R
  by_cases h1 : 1 ≤ x1 ∧ x1 ≤ 7
  · by_cases h2 : 0 ≤ x2 ∧ x2 ≤ 60
    · obtain ⟨d1, d2⟩ := H.cst (i := x1) (by omega)
      refine ⟨μ 7 x1.toNat, mset μ 7 x1.toNat x2, mset (mset μ 7 x1.toNat x2) 62 (0 + 160 + x1.toNat) x2, ?_, ?_, ?_⟩
      · unfold ww_price
        rw [isPeoples_eq, tT h1, isShare_eq, tT h2, swap_in (by omega), Option.bind_some]
      · unfold mod_price
        rw [areSome_eq, tT h1, in_eq, tT h2, wI_id (by omega), ld_ok (by omega), Option.bind_some, stx_ok (by omega), Option.bind_some, mset_off (by omega), show (160 + x1).toNat = 0 + 160 + x1.toNat by omega, d1]
      · refine Inv.road (R := uq (mR μ 0) 7 x1 x2) ((Off.rf.set (by unfold Rdw; omega)).set (by unfold Rdw; omega)) ((RC.set7 (r := 1) (by omega) hR).mod (by omega)) (MC.set7 (by omega) hT (hM.cls (by omega))) (hO.set7 h2) ?_ H
        exact H.2.2.2.2.2.2.same (by simp [mset_ap]) (fun j hj => by rw [mset_ap, if_neg (by omega), mset_off (by omega)]) (by rw [mset_off (by omega), mset_off (by omega)]) (by rw [mset_off (by omega), mset_off (by omega)]) (by rw [mset_off (by omega), mset_off (by omega)]) (fun j _ _ => by rw [mset_off (by omega), mset_off (by omega)]) (by rw [mset_off (by omega), mset_off (by omega)])
    · refine ⟨-1, μ, μ, ?_, ?_, H⟩
      · unfold ww_price
        rw [isPeoples_eq, tT h1, isShare_eq, tF h2]
      · unfold mod_price
        rw [areSome_eq, tT h1, in_eq, tF h2]
  · refine ⟨-1, μ, μ, ?_, ?_, H⟩
    · unfold ww_price
      rw [isPeoples_eq, tF h1]
    · unfold mod_price
      rw [areSome_eq, tF h1]
theorem RC.setN {μ : Mem} {r : Nat} {R : Rd} {m : Int} (hm : m ≤ R 0 2) (H : RC μ r R) : RC (mset μ r 11 m) r (uq R 0 2 m) := by
  obtain ⟨⟨a1, a2, a3⟩, b, c, ⟨bb, b1, b2, b3⟩, e, f, g, h7, ⟨ff, f1, f2, f3⟩, h9⟩ := H
  refine ⟨⟨by rw [mset_ap, uq_ap, if_neg (by omega), if_neg (by omega)]; exact a1, by rw [mset_ap, uq_ap, if_neg (by omega), if_neg (by omega)]; exact a2, by rw [mset_ap, uq_ap, if_pos ⟨rfl, rfl⟩, if_pos ⟨rfl, rfl⟩]⟩,
    fun j h1 h2 => by rw [mset_ap, uq_ap, if_neg (by omega), if_neg (by omega)]; exact b j h1 h2,
    fun j h1 h2 => by rw [mset_ap, uq_ap, if_neg (by omega), if_neg (by omega)]; exact c j h1 h2,
    ⟨bb, by rw [mset_ap, if_neg (by omega)]; exact b1, b2, fun j hj => by rw [uq_ap, if_neg (by omega)]; exact b3 j hj⟩,
    fun j h1 h2 => by rw [mset_ap, uq_ap, if_neg (by omega), if_neg (by omega)]; exact e j h1 h2,
    fun j h1 h2 => by rw [mset_ap, uq_ap, if_neg (by omega), if_neg (by omega)]; exact f j h1 h2,
    fun j h1 h2 => by
      rw [uq_ap, if_neg (by omega)] at h2
      rw [mset_ap, uq_ap, if_neg (by omega), if_neg (by omega)]; exact g j h1 h2,
    fun j h1 h2 => by rw [mset_ap, uq_ap, if_neg (by omega), if_neg (by omega)]; exact h7 j h1 h2,
    ⟨ff, by rw [mset_ap, if_neg (by omega)]; exact f1, f2, fun j hj => by rw [uq_ap, if_neg (by omega)]; exact f3 j hj⟩,
    fun j h1 h2 => by
      rw [uq_ap, if_pos ⟨rfl, rfl⟩] at h2
      rw [mset_ap, uq_ap, uq_ap, if_neg (by omega), if_neg (by omega), if_neg (by omega)]; exact h9 j h1 (by omega)⟩
theorem MC.setN {μ : Mem} {o : Nat} {R : Rd} {m : Int} (hn : 0 ≤ R 0 2 ∧ R 0 2 ≤ 8) (hm : m ≤ R 0 2) (H : MC μ o R) : MC (mset μ 62 (o + 168) m) o (uq R 0 2 m) := by
  obtain ⟨⟨a1, a2, a3⟩, b, c, d, e, f, g, h7, h8, h9⟩ := H
  refine ⟨⟨by rw [mset_ap, uq_ap, if_neg (by omega), if_neg (by omega)]; exact a1, by rw [mset_ap, uq_ap, if_neg (by omega), if_neg (by omega)]; exact a2, by rw [mset_ap, uq_ap, if_pos ⟨rfl, rfl⟩, if_pos ⟨rfl, rfl⟩]⟩,
    fun j h1 h2 => by rw [mset_ap, uq_ap, if_neg (by omega), if_neg (by omega)]; exact b j h1 h2,
    fun j h1 h2 => by rw [mset_ap, uq_ap, if_neg (by omega), if_neg (by omega)]; exact c j h1 h2,
    fun j h1 h2 => by rw [mset_ap, uq_ap, if_neg (by omega), if_neg (by omega)]; exact d j h1 h2,
    fun j h1 h2 => by rw [mset_ap, uq_ap, if_neg (by omega), if_neg (by omega)]; exact e j h1 h2,
    fun j h1 h2 => by rw [mset_ap, uq_ap, if_neg (by omega), if_neg (by omega)]; exact f j h1 h2,
    fun j h1 h2 => by rw [mset_ap, uq_ap, if_neg (by omega), if_neg (by omega)]; exact g j h1 h2,
    fun j h1 h2 => by rw [mset_ap, uq_ap, if_neg (by omega), if_neg (by omega)]; exact h7 j h1 h2,
    fun j h1 h2 => by rw [mset_ap, uq_ap, if_neg (by omega), if_neg (by omega)]; exact h8 j h1 h2,
    fun j h1 h2 => by
      rw [uq_ap, if_pos ⟨rfl, rfl⟩] at h2
      rw [mset_ap, mset_ap, uq_ap, uq_ap, if_neg (by omega), if_neg (by omega), if_neg (by omega), if_neg (by omega)]; exact h9 j h1 (by omega)⟩
theorem pt_uq0 (R : Rd) (i m c k : Int) : pt (uq R 0 i m) c k = pt R c k := by unfold pt; rw [uq_ap, if_neg (by omega)]
theorem Ok.setN {R : Rd} {m : Int} (hm : 0 ≤ m ∧ m ≤ R 0 2) (H : Ok R) : Ok (uq R 0 2 m) := by
  obtain ⟨a, b, c, d, e, f, g, h7, h8, h9⟩ := H
  refine ⟨by rw [uq_ap, uq_ap, uq_ap, if_neg (by omega), if_neg (by omega), if_pos ⟨rfl, rfl⟩]; omega,
    fun j h1 h2 => by rw [uq_ap, if_neg (by omega)]; exact b j h1 h2,
    fun j h1 h2 => by rw [uq_ap, if_neg (by omega)]; exact c j h1 h2,
    fun j h1 h2 => by rw [uq_ap, if_neg (by omega)]; exact d j h1 h2,
    fun j h1 h2 => by rw [uq_ap, if_neg (by omega)]; exact e j h1 h2,
    fun j h1 h2 => by rw [uq_ap, if_neg (by omega)]; exact f j h1 h2,
    fun j h1 h2 => by
      rw [uq_ap, if_neg (by omega)] at h2
      have := g j h1 h2
      simp only [pt_uq0]
      rw [uq_ap, if_neg (by omega)]; exact this,
    fun j h1 h2 => by rw [uq_ap, if_neg (by omega)]; exact h7 j h1 h2,
    fun j h1 h2 => by rw [uq_ap, if_neg (by omega)]; exact h8 j h1 h2,
    fun j h1 h2 => by
      rw [uq_ap, if_pos ⟨rfl, rfl⟩] at h2
      rw [uq_ap, uq_ap, uq_ap, if_neg (by omega), if_neg (by omega), if_neg (by omega)]; exact h9 j h1 (by omega)⟩
theorem E_forget_ok : E_forget Inv := by
  intro μ H x1 g1
  obtain ⟨c1, c2, c3, c4, c5, c6⟩ := H.c
  obtain ⟨hR, hM, hO, hT⟩ := H.R
  by_cases h1 : 0 ≤ x1 ∧ x1 ≤ μ 62 168
  · refine ⟨μ 62 168, mset μ 1 11 x1, mset (mset μ 1 11 x1) 62 (0 + 168) x1, ?_, ?_, ?_⟩
    · unfold ww_forget bnd
      rw [if_neg (by omega), if_pos (by omega), c3]
    · unfold mod_forget bnd
      rw [in_eq, mset_off (by omega), tT h1]
    · refine Inv.road (R := uq (mR μ 0) 0 2 x1) ((Off.rf.set (by unfold Rdw; omega)).set (by unfold Rdw; omega)) ((RC.setN (r := 1) h1.2 hR).mod (by omega)) (MC.setN hT h1.2 (hM.cls (by omega))) (hO.setN h1) ?_ H
      exact H.2.2.2.2.2.2.same (by simp [mset_ap]) (fun j hj => by rw [mset_ap, if_neg (by omega), mset_off (by omega)]) (by rw [mset_off (by omega), mset_off (by omega)]) (by rw [mset_off (by omega), mset_off (by omega)]) (by rw [mset_off (by omega), mset_off (by omega)]) (fun j _ _ => by rw [mset_off (by omega), mset_off (by omega)]) (by rw [mset_off (by omega), mset_off (by omega)])
  · refine ⟨-1, μ, μ, ?_, ?_, H⟩
    · unfold ww_forget
      by_cases h0 : x1 < 0
      · rw [if_pos h0]
      · rw [if_neg h0, if_neg (by omega)]
    · unfold mod_forget
      rw [in_eq, tF h1]
/-! ===== one track more ===== -/
def addR (R : Rd) (y w : Int) : Rd := fun s i => if s = 0 ∧ i = 2 then R 0 2 + 1 else if s = 9 ∧ i = R 0 2 then y else if s = 10 ∧ i = R 0 2 then w else R s i
def addC (μ : Mem) (r : Nat) (n y w : Int) : Mem := mset (mset μ (r + 7) n.toNat (3 * y + w)) r 11 (n + 1)
def addM (μ : Mem) (o : Nat) (n y w : Int) : Mem := mset (mset (mset μ 62 (o + 169 + 2 * n.toNat) y) 62 (o + 170 + 2 * n.toNat) w) 62 (o + 168) (n + 1)
theorem RC.add {μ : Mem} {r : Nat} {R : Rd} {y w : Int} (hn : 0 ≤ R 0 2) (H : RC μ r R) : RC (addC μ r (R 0 2) y w) r (addR R y w) := by
  obtain ⟨⟨a1, a2, a3⟩, b, c, ⟨bb, b1, b2, b3⟩, e, f, g, h7, ⟨ff, f1, f2, f3⟩, h9⟩ := H
  have q : ∀ s i, s ≠ 0 → s ≠ 9 → s ≠ 10 → addR R y w s i = R s i := fun s i z1 z2 z3 => by unfold addR; rw [if_neg (by omega), if_neg (by omega), if_neg (by omega)]
  have u : ∀ k j, k ≠ r → k ≠ r + 7 → addC μ r (R 0 2) y w k j = μ k j := fun k j z1 z2 => by unfold addC; rw [mset_off z1, mset_off z2]
  have u2 : ∀ j, j ≠ 11 → addC μ r (R 0 2) y w r j = μ r j := fun j z => by unfold addC; rw [mset_ap, if_neg (by omega), mset_off (by omega)]
  have n01 : addR R y w 0 1 = R 0 1 := by unfold addR; rw [if_neg (by omega), if_neg (by omega), if_neg (by omega)]
  have n02 : addR R y w 0 2 = R 0 2 + 1 := by unfold addR; rw [if_pos ⟨rfl, rfl⟩]
  refine ⟨⟨?_, ?_, ?_⟩,
    fun j h1 h2 => by rw [u _ _ (by omega) (by omega), q _ _ (by omega) (by omega) (by omega)]; exact b j h1 h2,
    fun j h1 h2 => by rw [u _ _ (by omega) (by omega), q _ _ (by omega) (by omega) (by omega)]; exact c j h1 h2,
    ⟨bb, by rw [u2 _ (by omega)]; exact b1, b2, fun j hj => by rw [q _ _ (by omega) (by omega) (by omega)]; exact b3 j hj⟩,
    fun j h1 h2 => by rw [u _ _ (by omega) (by omega), q _ _ (by omega) (by omega) (by omega)]; exact e j h1 h2,
    fun j h1 h2 => by rw [u _ _ (by omega) (by omega), q _ _ (by omega) (by omega) (by omega)]; exact f j h1 h2,
    fun j h1 h2 => by
      rw [n01] at h2
      rw [u _ _ (by omega) (by omega), q _ _ (by omega) (by omega) (by omega)]; exact g j h1 h2,
    fun j h1 h2 => by rw [u _ _ (by omega) (by omega), q _ _ (by omega) (by omega) (by omega)]; exact h7 j h1 h2,
    ⟨ff, by rw [u2 _ (by omega)]; exact f1, f2, fun j hj => by rw [q _ _ (by omega) (by omega) (by omega)]; exact f3 j hj⟩,
    fun j h1 h2 => ?_⟩
  · rw [u2 _ (by omega), a1]; unfold addR; rw [if_neg (by omega), if_neg (by omega), if_neg (by omega)]
  · rw [u2 _ (by omega), a2, n01]
  · rw [n02]; unfold addC; rw [mset_ap, if_pos ⟨rfl, rfl⟩]
  · rw [n02] at h2
    unfold addC addR
    by_cases z : j = R 0 2
    · subst z
      rw [mset_ap, if_neg (by omega), mset_ap, if_pos ⟨rfl, rfl⟩, if_neg (by omega), if_pos ⟨rfl, rfl⟩, if_neg (by omega), if_neg (by omega), if_pos ⟨rfl, rfl⟩]
    · rw [mset_ap, if_neg (by omega), mset_ap, if_neg (by omega), if_neg (by omega), if_neg (by omega), if_neg (by omega), if_neg (by omega), if_neg (by omega), if_neg (by omega)]
      exact h9 j h1 (by omega)
theorem MC.add {μ : Mem} {o : Nat} {R : Rd} {y w : Int} (hn : 0 ≤ R 0 2 ∧ R 0 2 < 8) (H : MC μ o R) : MC (addM μ o (R 0 2) y w) o (addR R y w) := by
  obtain ⟨⟨a1, a2, a3⟩, b, c, d, e, f, g, h7, h8, h9⟩ := H
  have q : ∀ s i, s ≠ 0 → s ≠ 9 → s ≠ 10 → addR R y w s i = R s i := fun s i z1 z2 z3 => by unfold addR; rw [if_neg (by omega), if_neg (by omega), if_neg (by omega)]
  have u : ∀ k j, k ≠ 62 → addM μ o (R 0 2) y w k j = μ k j := fun k j z1 => by unfold addM; rw [mset_off z1, mset_off z1, mset_off z1]
  have u2 : ∀ j, j < o + 168 → addM μ o (R 0 2) y w 62 j = μ 62 j := fun j z => by unfold addM; rw [mset_ap, if_neg (by omega), mset_ap, if_neg (by omega), mset_ap, if_neg (by omega)]
  have n01 : addR R y w 0 1 = R 0 1 := by unfold addR; rw [if_neg (by omega), if_neg (by omega), if_neg (by omega)]
  have n02 : addR R y w 0 2 = R 0 2 + 1 := by unfold addR; rw [if_pos ⟨rfl, rfl⟩]
  refine ⟨⟨?_, ?_, ?_⟩,
    fun j h1 h2 => by rw [u _ _ (by omega), q _ _ (by omega) (by omega) (by omega)]; exact b j h1 h2,
    fun j h1 h2 => by rw [u _ _ (by omega), q _ _ (by omega) (by omega) (by omega)]; exact c j h1 h2,
    fun j h1 h2 => by rw [u _ _ (by omega), q _ _ (by omega) (by omega) (by omega)]; exact d j h1 h2,
    fun j h1 h2 => by rw [u _ _ (by omega), q _ _ (by omega) (by omega) (by omega)]; exact e j h1 h2,
    fun j h1 h2 => by rw [u2 _ (by omega), q _ _ (by omega) (by omega) (by omega)]; exact f j h1 h2,
    fun j h1 h2 => by rw [u2 _ (by omega), q _ _ (by omega) (by omega) (by omega)]; exact g j h1 h2,
    fun j h1 h2 => by rw [u2 _ (by omega), q _ _ (by omega) (by omega) (by omega)]; exact h7 j h1 h2,
    fun j h1 h2 => by rw [u2 _ (by omega), q _ _ (by omega) (by omega) (by omega)]; exact h8 j h1 h2,
    fun j h1 h2 => ?_⟩
  · rw [u _ _ (by omega), a1]; unfold addR; rw [if_neg (by omega), if_neg (by omega), if_neg (by omega)]
  · rw [u2 _ (by omega), a2, n01]
  · rw [n02]; unfold addM; rw [mset_ap, if_pos ⟨rfl, rfl⟩]
  · rw [n02] at h2
    unfold addM addR
    by_cases z : j = R 0 2
    · subst z
      refine ⟨?_, ?_⟩
      · rw [mset_ap, if_neg (by omega), mset_ap, if_neg (by omega), mset_ap, if_pos ⟨rfl, rfl⟩, if_neg (by omega), if_pos ⟨rfl, rfl⟩]
      · rw [mset_ap, if_neg (by omega), mset_ap, if_pos ⟨rfl, rfl⟩, if_neg (by omega), if_neg (by omega), if_pos ⟨rfl, rfl⟩]
    · have h9' := h9 j h1 (by omega)
      refine ⟨?_, ?_⟩
      · rw [mset_ap, if_neg (by omega), mset_ap, if_neg (by omega), mset_ap, if_neg (by omega), if_neg (by omega), if_neg (by omega), if_neg (by omega)]; exact h9'.1
      · rw [mset_ap, if_neg (by omega), mset_ap, if_neg (by omega), mset_ap, if_neg (by omega), if_neg (by omega), if_neg (by omega), if_neg (by omega)]; exact h9'.2
theorem Ok.add {R : Rd} {y w : Int} (hn : R 0 2 < 8) (hy : 0 ≤ y ∧ y ≤ R 0 0) (hw : 0 ≤ w ∧ w ≤ 2) (H : Ok R) : Ok (addR R y w) := by
  obtain ⟨a, b, c, d, e, f, g, h7, h8, h9⟩ := H
  have q : ∀ s i, s ≠ 0 → s ≠ 9 → s ≠ 10 → addR R y w s i = R s i := fun s i z1 z2 z3 => by unfold addR; rw [if_neg (by omega), if_neg (by omega), if_neg (by omega)]
  have qp : ∀ c k, pt (addR R y w) c k = pt R c k := fun c k => by unfold pt; rw [q _ _ (by omega) (by omega) (by omega)]
  have n00 : addR R y w 0 0 = R 0 0 := by unfold addR; rw [if_neg (by omega), if_neg (by omega), if_neg (by omega)]
  have n01 : addR R y w 0 1 = R 0 1 := by unfold addR; rw [if_neg (by omega), if_neg (by omega), if_neg (by omega)]
  have n02 : addR R y w 0 2 = R 0 2 + 1 := by unfold addR; rw [if_pos ⟨rfl, rfl⟩]
  refine ⟨by rw [n00, n01, n02]; omega,
    fun j h1 h2 => by rw [q _ _ (by omega) (by omega) (by omega)]; exact b j h1 h2,
    fun j h1 h2 => by rw [q _ _ (by omega) (by omega) (by omega)]; exact c j h1 h2,
    fun j h1 h2 => by rw [q _ _ (by omega) (by omega) (by omega)]; exact d j h1 h2,
    fun j h1 h2 => by rw [q _ _ (by omega) (by omega) (by omega)]; exact e j h1 h2,
    fun j h1 h2 => by rw [q _ _ (by omega) (by omega) (by omega)]; exact f j h1 h2,
    fun j h1 h2 => by
      rw [n01] at h2
      simp only [qp, n00]; exact g j h1 h2,
    fun j h1 h2 => by rw [q _ _ (by omega) (by omega) (by omega)]; exact h7 j h1 h2,
    fun j h1 h2 => by rw [q _ _ (by omega) (by omega) (by omega)]; exact h8 j h1 h2,
    fun j h1 h2 => ?_⟩
  rw [n02] at h2
  rw [n00]
  unfold addR
  by_cases z : j = R 0 2
  · subst z
    rw [if_neg (by omega), if_pos ⟨rfl, rfl⟩, if_neg (by omega), if_neg (by omega), if_pos ⟨rfl, rfl⟩]
    exact ⟨hy, hw⟩
  · rw [if_neg (by omega), if_neg (by omega), if_neg (by omega), if_neg (by omega), if_neg (by omega), if_neg (by omega)]
    exact h9 j h1 (by omega)
theorem Inv.add {μ : Mem} (H : Inv μ) {y w : Int} (hn : μ 62 168 < 8) (hy : 0 ≤ y ∧ y ≤ μ 61 2) (hw : 0 ≤ w ∧ w ≤ 2) : Inv (addM (addC μ 1 (μ 62 168) y w) 0 (μ 62 168) y w) := by
  obtain ⟨hR, hM, hO, hT⟩ := H.R
  have hn2 : mR μ 0 0 2 = μ 62 168 := rfl
  refine Inv.road (R := addR (mR μ 0) y w) ?_ ?_ ?_ (hO.add hn hy hw) ?_ H
  · unfold addM addC
    exact ((((Off.rf.set (by unfold Rdw; omega)).set (by unfold Rdw; omega)).set (by unfold Rdw; omega)).set (by unfold Rdw; omega)).set (by unfold Rdw; omega)
  · have h := RC.add (y := y) (w := w) hT.1 hR
    rw [hn2] at h
    unfold addM
    exact ((h.mod (by omega)).mod (by omega)).mod (by omega)
  · rw [← hn2]
    refine MC.add ⟨hT.1, hn⟩ ?_
    unfold addC
    exact (hM.cls (by omega)).cls (by omega)
  · have u : ∀ k, k ≠ 62 → k ≠ 1 → k ≠ 8 → addM (addC μ 1 (μ 62 168) y w) 0 (μ 62 168) y w k = μ k := fun k z1 z2 z3 => by unfold addM addC; rw [mset_off z1, mset_off z1, mset_off z1, mset_off z2, mset_off z3]
    refine H.2.2.2.2.2.2.same (by rw [u _ (by omega) (by omega) (by omega)]) (fun j hj => ?_) (u _ (by omega) (by omega) (by omega)) (u _ (by omega) (by omega) (by omega)) (u _ (by omega) (by omega) (by omega)) (fun j _ _ => by rw [u _ (by omega) (by omega) (by omega)]) (u _ (by omega) (by omega) (by omega))
    unfold addM addC
    rw [mset_ap, if_neg (by omega), mset_ap, if_neg (by omega), mset_ap, if_neg (by omega), mset_off (by omega), mset_off (by omega)]
theorem refuses_eq {μ : Mem} {r : Nat} {y w m : Int} : roa_refusesTrack r μ y w m = some (if (0 ≤ y ∧ y ≤ μ r 9) ∧ 0 ≤ w ∧ w ≤ 2 then (if m < 8 then 0 else -3) else -1) := by
  unfold roa_refusesTrack
  rw [hasYard_eq, isWidth_eq]
  by_cases h1 : 0 ≤ y ∧ y ≤ μ r 9
  · rw [tT h1]
    by_cases h2 : 0 ≤ w ∧ w ≤ 2
    · have hh : (0 ≤ y ∧ y ≤ μ r 9) ∧ 0 ≤ w ∧ w ≤ 2 := ⟨h1, h2⟩
      rw [tT h2]
      simp only [if_pos hh]
      split <;> rfl
    · rw [tF h2, if_neg (fun z => h2 z.2)]
  · rw [tF h1, if_neg (fun z => h1 z.1)]
theorem addTrack_eq {μ : Mem} {r : Nat} {y w : Int} (hy : 0 ≤ y ∧ y ≤ 20) (hw : 0 ≤ w ∧ w ≤ 2) (hn : 0 ≤ μ r 11 ∧ μ r 11 < 8) : roa_addTrack r y w μ = some (μ r 11 + 1, addC μ r (μ r 11) y w) := by
  unfold roa_addTrack bnd
  dsimp only
  have e1 : mset μ (r + 7) (μ r 11).toNat (3 * y + w) r 11 = μ r 11 := by rw [mset_off (by omega)]
  rw [rut_eq (by omega), Option.bind_some, put_in (by omega), Option.bind_some, e1, wI_id (by omega), mset_same]
  rfl
theorem mtrack_eq {μ : Mem} {y w : Int} (hy : 0 ≤ y ∧ y ≤ μ 61 2) (hw : 0 ≤ w ∧ w ≤ 2) (hn : 0 ≤ μ 62 168 ∧ μ 62 168 < 8) : mod_track y w μ = some (μ 62 168 + 1, addM μ 0 (μ 62 168) y w) := by
  have e1 : mset (mset μ 62 (0 + 169 + 2 * (μ 62 168).toNat) y) 62 (0 + 170 + 2 * (μ 62 168).toNat) w 62 168 = μ 62 168 := by rw [mset_ne (by omega), mset_ne (by omega)]
  unfold mod_track bnd
  dsimp only
  rw [mIsYard_eq, tT hy, mIsWidth_eq, tT hw, if_neg (by omega), wI_id (x := 2 * μ 62 168) (by omega), wI_id (by omega), stx_ok (by omega), Option.bind_some, wI_id (x := 169 + 2 * μ 62 168 + 1) (by omega), stx_ok (by omega), Option.bind_some, show (169 + 2 * μ 62 168).toNat = 0 + 169 + 2 * (μ 62 168).toNat by omega, show (169 + 2 * μ 62 168 + 1).toNat = 0 + 170 + 2 * (μ 62 168).toNat by omega, e1, wI_id (by omega), mset_same]
  rfl
theorem mtrack_bad {μ : Mem} {y w : Int} (h : ¬ ((0 ≤ y ∧ y ≤ μ 61 2) ∧ 0 ≤ w ∧ w ≤ 2)) : mod_track y w μ = some (-1, μ) := by
  unfold mod_track
  rw [mIsYard_eq, mIsWidth_eq]
  by_cases h1 : 0 ≤ y ∧ y ≤ μ 61 2
  · rw [tT h1, tF (fun z => h ⟨h1, z⟩)]
  · rw [tF h1]
theorem mtrack_full {μ : Mem} {y w : Int} (hy : 0 ≤ y ∧ y ≤ μ 61 2) (hw : 0 ≤ w ∧ w ≤ 2) (hn : μ 62 168 = 8) : mod_track y w μ = some (-3, μ) := by
  unfold mod_track
  rw [mIsYard_eq, mIsWidth_eq, tT hy, tT hw, if_pos hn]
theorem E_track_ok : E_track Inv := by
  intro μ H x1 x2 g1 g2
  obtain ⟨c1, c2, c3, c4, c5, c6⟩ := H.c
  by_cases h1 : (0 ≤ x1 ∧ x1 ≤ μ 61 2) ∧ 0 ≤ x2 ∧ x2 ≤ 2
  · by_cases h2 : μ 62 168 < 8
    · refine ⟨μ 62 168 + 1, addC μ 1 (μ 62 168) x1 x2, addM (addC μ 1 (μ 62 168) x1 x2) 0 (μ 62 168) x1 x2, ?_, ?_, H.add h2 h1.1 h1.2⟩
      · unfold ww_track
        rw [refuses_eq, c1, if_pos h1, Option.bind_some, if_pos (by omega), addTrack_eq (by omega) h1.2 (by omega), Option.bind_some, c3]
      · have u : ∀ k, k ≠ 1 → k ≠ 8 → addC μ 1 (μ 62 168) x1 x2 k = μ k := fun k z2 z3 => by unfold addC; rw [mset_off z2, mset_off z3]
        have := mtrack_eq (μ := addC μ 1 (μ 62 168) x1 x2) (y := x1) (w := x2) (by rw [u _ (by omega) (by omega)]; exact h1.1) h1.2 (by rw [u _ (by omega) (by omega)]; omega)
        rw [u 62 (by omega) (by omega)] at this
        exact this
    · refine ⟨-3, μ, μ, ?_, mtrack_full h1.1 h1.2 (by omega), H⟩
      unfold ww_track
      rw [refuses_eq, c1, if_pos h1, if_neg (by omega), Option.bind_some, if_neg (by omega)]
  · refine ⟨-1, μ, μ, ?_, mtrack_bad h1, H⟩
    unfold ww_track
    rw [refuses_eq, c1, if_neg h1, Option.bind_some, if_neg (by omega)]
