/-! ===== feed ===== -/
theorem i2b_eq {x : Int} (h : C32 x) : i2b x = x.bmod 256 := by
  unfold i2b
  rw [Int8.toInt_toInt32, Int32.toInt_toInt8, i32_toInt h]
theorem bN_eq {x : Int} (h : C32 x) : bN x = x.bmod 256 := i2b_eq h
theorem l2i_eq {t : Int} (h : C64 t) : l2i t = t.bmod 4294967296 := by
  unfold l2i
  rw [Int64.toInt_toInt32, i64_toInt h]
theorem and255 {t : Int} (h : C64 t) : lAnd t 255 = t % 256 := by
  have hm := Nat.and_two_pow_sub_one_eq_mod ((Int64.ofInt t).toBitVec.toNat) 8
  have e : lAnd t 255 = (((Int64.ofInt t).toBitVec.toNat % 256 : Nat) : Int) := by
    unfold lAnd
    refine l64_of_bv (by omega) ?_
    rw [Int64.toBitVec_and, BitVec.toNat_and]
    exact hm
  have e2 : (Int64.ofInt t).toBitVec.toInt = t := i64_toInt h
  rw [BitVec.toInt_eq_toNat_cond] at e2
  rw [e]
  have hlt := (Int64.ofInt t).toBitVec.isLt
  split at e2 <;> omega
theorem byte_rel {t : Int} (h : C64 t) : (0 ≤ l2i (lAnd t 255) ∧ l2i (lAnd t 255) ≤ 255) ∧ bN (i2b (l2i t)) = if l2i (lAnd t 255) < 128 then l2i (lAnd t 255) else l2i (lAnd t 255) - 256 := by
  rw [and255 h, l2i_eq (t := t % 256) ⟨by omega, by omega⟩, l2i_eq h]
  have h1 : C32 (t.bmod 4294967296) := by rw [Int.bmod_def]; constructor <;> omega
  rw [i2b_eq h1]
  have h2 : C32 ((t.bmod 4294967296).bmod 256) := by rw [Int.bmod_def]; constructor <;> omega
  rw [bN_eq h2]
  simp only [Int.bmod_def]
  omega
theorem lShr_C (x y : Int) : C64 (lShr x y) := i64_C _
def bC (v s : Int) : Int := bN (i2b (l2i (lShr v s)))
def bM (v s : Int) : Int := l2i (lAnd (lShr v s) 255)
theorem appC (v : Int) : ∀ (t f : Nat) (μ : Mem), t < f → t ≤ 8 → 0 ≤ μ 25 1 → μ 25 1 + t ≤ 400 → ∃ μ1, rea_append_3 f v (8 * (t : Int) - 8) μ = some (μ 25 1 + t, μ1) ∧ (∀ a j, a ≠ 26 → ¬ (a = 25 ∧ j = 1) → μ1 a j = μ a j) ∧ μ1 25 1 = μ 25 1 + t ∧ ∀ i : Int, 0 ≤ i → (i < μ 25 1 → μ1 26 i.toNat = μ 26 i.toNat) ∧ (μ 25 1 ≤ i → i < μ 25 1 + t → μ1 26 i.toNat = bC v (8 * ((t : Int) - (i - μ 25 1)) - 8)) := by
  intro t
  induction t with
  | zero =>
    intro f μ hf ht h0 h4
    obtain ⟨f, rfl⟩ : ∃ g, f = g + 1 := ⟨f - 1, by omega⟩
    refine ⟨μ, ?_, fun a j _ _ => rfl, by omega, fun i h1 => ⟨fun _ => rfl, fun h2 h3 => by omega⟩⟩
    rw [rea_append_3.eq_2, if_pos (by omega)]
    congr 2; omega
  | succ t ih =>
    intro f μ hf ht h0 h4
    obtain ⟨f, rfl⟩ : ∃ g, f = g + 1 := ⟨f - 1, by omega⟩
    have e1 : mset μ 26 (μ 25 1).toNat (bN (i2b (l2i (lShr v (8 * ((t + 1 : Nat) : Int) - 8))))) 25 1 = μ 25 1 := mset_ne (by omega)
    generalize hμ' : mset (mset μ 26 (μ 25 1).toNat (bN (i2b (l2i (lShr v (8 * ((t + 1 : Nat) : Int) - 8)))))) 25 1 (μ 25 1 + 1) = μ'
    have e2 : μ' 25 1 = μ 25 1 + 1 := by rw [← hμ', mset_same]
    have e3 : ∀ a j, a ≠ 26 → ¬ (a = 25 ∧ j = 1) → μ' a j = μ a j := fun a j n1 n2 => by rw [← hμ', mset_ne n2, mset_ne (by omega)]
    have e4 : ∀ j, μ' 26 j = if j = (μ 25 1).toNat then bC v (8 * ((t + 1 : Nat) : Int) - 8) else μ 26 j := fun j => by
      rw [← hμ', mset_ne (by omega), mset_ap]
      by_cases z : j = (μ 25 1).toNat
      · rw [if_pos ⟨rfl, z⟩, if_pos z]; rfl
      · rw [if_neg (by omega), if_neg z]
    obtain ⟨μ1, k1, k2, k3, k4⟩ := ih f μ' (by omega) (by omega) (by omega) (by omega)
    refine ⟨μ1, ?_, fun a j n1 n2 => (k2 a j n1 n2).trans (e3 a j n1 n2), by omega, fun i h1 => ?_⟩
    · rw [rea_append_3.eq_2, if_neg (by omega), if_neg (by omega), if_neg (by omega), stx_ok (by omega), Option.bind_some]
      unfold rea_append_40 bnd
      dsimp only
      rw [e1, wI_id (x := μ 25 1 + 1) (by omega), hμ', wI_id (by omega), show 8 * ((t + 1 : Nat) : Int) - 8 + -8 = 8 * (t : Int) - 8 by omega, k1]
      congr 2; omega
    · have h := k4 i h1
      rw [e2] at h
      constructor
      · intro h2
        rw [h.1 (by omega), e4, if_neg (by omega)]
      · intro h2 h3
        by_cases z : i = μ 25 1
        · subst z
          rw [h.1 (by omega), e4, if_pos rfl]
          congr 1; omega
        · rw [h.2 (by omega) (by omega)]
          congr 1; omega
theorem appM (v : Int) : ∀ (t f : Nat) (μ : Mem), t < f → t ≤ 8 → 0 ≤ μ 61 18 → μ 61 18 + t ≤ 400 → ∃ μ1, mod_feed_19 f v (8 * (t : Int) - 8) μ = some (μ 61 18 + t, μ1) ∧ (∀ a j, a ≠ 74 → ¬ (a = 61 ∧ j = 18) → μ1 a j = μ a j) ∧ μ1 61 18 = μ 61 18 + t ∧ ∀ i : Int, 0 ≤ i → (i < μ 61 18 → μ1 74 i.toNat = μ 74 i.toNat) ∧ (μ 61 18 ≤ i → i < μ 61 18 + t → μ1 74 i.toNat = bM v (8 * ((t : Int) - (i - μ 61 18)) - 8)) := by
  intro t
  induction t with
  | zero =>
    intro f μ hf ht h0 h4
    obtain ⟨f, rfl⟩ : ∃ g, f = g + 1 := ⟨f - 1, by omega⟩
    refine ⟨μ, ?_, fun a j _ _ => rfl, by omega, fun i h1 => ⟨fun _ => rfl, fun h2 h3 => by omega⟩⟩
    rw [mod_feed_19.eq_2, if_pos (by omega)]
    congr 2; omega
  | succ t ih =>
    intro f μ hf ht h0 h4
    obtain ⟨f, rfl⟩ : ∃ g, f = g + 1 := ⟨f - 1, by omega⟩
    have e1 : mset μ 74 (μ 61 18).toNat (l2i (lAnd (lShr v (8 * ((t + 1 : Nat) : Int) - 8)) 255)) 61 18 = μ 61 18 := mset_ne (by omega)
    generalize hμ' : mset (mset μ 74 (μ 61 18).toNat (l2i (lAnd (lShr v (8 * ((t + 1 : Nat) : Int) - 8)) 255))) 61 18 (μ 61 18 + 1) = μ'
    have e2 : μ' 61 18 = μ 61 18 + 1 := by rw [← hμ', mset_same]
    have e3 : ∀ a j, a ≠ 74 → ¬ (a = 61 ∧ j = 18) → μ' a j = μ a j := fun a j n1 n2 => by rw [← hμ', mset_ne n2, mset_ne (by omega)]
    have e4 : ∀ j, μ' 74 j = if j = (μ 61 18).toNat then bM v (8 * ((t + 1 : Nat) : Int) - 8) else μ 74 j := fun j => by
      rw [← hμ', mset_ne (by omega), mset_ap]
      by_cases z : j = (μ 61 18).toNat
      · rw [if_pos ⟨rfl, z⟩, if_pos z]; rfl
      · rw [if_neg (by omega), if_neg z]
    obtain ⟨μ1, k1, k2, k3, k4⟩ := ih f μ' (by omega) (by omega) (by omega) (by omega)
    refine ⟨μ1, ?_, fun a j n1 n2 => (k2 a j n1 n2).trans (e3 a j n1 n2), by omega, fun i h1 => ?_⟩
    · rw [mod_feed_19.eq_2, if_neg (by omega), stx_ok (by omega), Option.bind_some]
      unfold bnd
      dsimp only
      rw [e1, wI_id (x := μ 61 18 + 1) (by omega), hμ', wI_id (by omega), show 8 * ((t + 1 : Nat) : Int) - 8 + -8 = 8 * (t : Int) - 8 by omega, k1]
      congr 2; omega
    · have h := k4 i h1
      rw [e2] at h
      constructor
      · intro h2
        rw [h.1 (by omega), e4, if_neg (by omega)]
      · intro h2 h3
        by_cases z : i = μ 61 18
        · subst z
          rw [h.1 (by omega), e4, if_pos rfl]
          congr 1; omega
        · rw [h.2 (by omega) (by omega)]
          congr 1; omega
theorem E_feed_ok : E_feed Inv := by
  intro μ H v hv
  obtain ⟨t1, t2, t3⟩ := H.2.2.1
  by_cases h : μ 61 18 + 8 ≤ 400
  · obtain ⟨μ1, a1, a2, a3, a4⟩ := appC v 8 BIG μ (by have := BIG_gt; omega) (by omega) (by omega) (by omega)
    have e1 : μ1 61 18 = μ 61 18 := a2 61 18 (by omega) (by omega)
    obtain ⟨μ2, b1, b2, b3, b4⟩ := appM v 8 BIG μ1 (by have := BIG_gt; omega) (by omega) (by omega) (by omega)
    refine ⟨μ 61 18 + 8, μ1, μ2, ?_, ?_, ?_⟩
    · unfold ww_feed rea_append
      rw [wI_id (x := μ 25 1 + 8) (by omega), if_pos (by omega), show (56 : Int) = 8 * ((8 : Nat) : Int) - 8 by decide, a1, Option.bind_some, t2]; rfl
    · unfold mod_feed
      rw [wI_id (x := μ1 61 18 + 8) (by omega), if_pos (by omega), show (56 : Int) = 8 * ((8 : Nat) : Int) - 8 by decide, b1, e1]; rfl
    · have q : ∀ a j, a ≠ 26 → a ≠ 74 → ¬ (a = 25 ∧ j = 1) → ¬ (a = 61 ∧ j = 18) → μ2 a j = μ a j := fun a j n1 n2 n3 n4 => (b2 a j n2 n4).trans (a2 a j n1 n3)
      have qc : ∀ a, a ≠ 26 → a ≠ 74 → a ≠ 25 → a ≠ 61 → μ2 a = μ a := fun a n1 n2 n3 n4 => funext fun j => q a j n1 n2 (by omega) (by omega)
      obtain ⟨c1, c2, c3, c4, c5, c6, c7⟩ := H
      have hm : SmM μ μ2 := ⟨q _ _ (by omega) (by omega) (by omega) (by omega), qc _ (by omega) (by omega) (by omega) (by omega), qc _ (by omega) (by omega) (by omega) (by omega), qc _ (by omega) (by omega) (by omega) (by omega), qc _ (by omega) (by omega) (by omega) (by omega), qc _ (by omega) (by omega) (by omega) (by omega)⟩
      refine ⟨c1.same hm (fun a _ _ => qc _ (by omega) (by omega) (by omega) (by omega)), c2.same hm (qc _ (by omega) (by omega) (by omega) (by omega)) (q _ _ (by omega) (by omega) (by omega) (by omega)) (fun a _ _ => qc _ (by omega) (by omega) (by omega) (by omega)), ⟨by omega, ?_, fun i i1 i2 => ?_⟩, c4.same (qc _ (by omega) (by omega) (by omega) (by omega)) (qc _ (by omega) (by omega) (by omega) (by omega)) (qc _ (by omega) (by omega) (by omega) (by omega)) (qc _ (by omega) (by omega) (by omega) (by omega)) (qc _ (by omega) (by omega) (by omega) (by omega)) (qc _ (by omega) (by omega) (by omega) (by omega)), c5.same (q _ _ (by omega) (by omega) (by omega) (by omega)) (q _ _ (by omega) (by omega) (by omega) (by omega)), c6.same (q _ _ (by omega) (by omega) (by omega) (by omega)) (q _ _ (by omega) (by omega) (by omega) (by omega)), c7.same hm.1 (fun j _ => by rw [hm.2.1]) hm.2.2.1 hm.2.2.2.1 hm.2.2.2.2.2 (fun j _ _ => q _ _ (by omega) (by omega) (by omega) (by omega)) (qc _ (by omega) (by omega) (by omega) (by omega))⟩
      · rw [b2 25 1 (by omega) (by omega), a3, b3, e1, t2]
      · rw [b3, e1] at i2
        rw [b2 26 _ (by omega) (by omega)]
        have hA := a4 i i1
        have hB := b4 i i1
        rw [t2] at hA
        rw [e1] at hB
        by_cases z : i < μ 61 18
        · rw [hA.1 z, hB.1 z, a2 74 _ (by omega) (by omega)]
          exact t3 i i1 z
        · rw [hA.2 (by omega) (by omega), hB.2 (by omega) (by omega)]
          exact byte_rel (lShr_C _ _)
  · refine ⟨-3, μ, μ, ?_, ?_, H⟩
    · unfold ww_feed
      rw [wI_id (x := μ 25 1 + 8) (by omega), if_neg (by omega)]
    · unfold mod_feed
      rw [wI_id (x := μ 61 18 + 8) (by omega), if_neg (by omega)]
/-! ===== read ===== -/
/-- the cells that are read, and whether a pair is refused -/
def rdY (μ : Mem) (k f i : Int) : Int := μ 58 (40 * k + f + 2 * i).toNat
def rdW (μ : Mem) (k f i : Int) : Int := μ 58 (40 * k + f + 2 * i + 1).toNat
def rdOk (μ : Mem) (k f i : Int) : Prop := ((0 ≤ rdY μ k f i ∧ rdY μ k f i ≤ μ 61 2) ∧ 0 ≤ rdW μ k f i ∧ rdW μ k f i ≤ 2) ∧ μ 62 168 + i < 8
theorem wholePairs_eq {μ : Mem} {k lane f n : Int} (hk : 0 ≤ k ∧ k < 4) (hs : μ 60 k.toNat = -4 ∨ 0 ≤ μ 60 k.toNat ∧ μ 60 k.toNat ≤ 40) (hf : C32 f) (hn : 0 ≤ n ∧ n ≤ 8) : ∃ w : Nat, she_wholePairs μ k lane f n = some (w : Int) ∧ (w : Int) ≤ n ∧ (0 < w → 0 ≤ μ 60 k.toNat ∧ μ 59 k.toNat = lane ∧ 0 ≤ f ∧ f + 2 * w ≤ μ 60 k.toNat) ∧ ((w : Int) < n → μ 60 k.toNat < 0 ∨ μ 59 k.toNat ≠ lane ∨ f < 0 ∨ μ 60 k.toNat < f + 2 * w + 2) := by
  unfold she_wholePairs
  rw [cellsOf_eq hk, Option.bind_some]
  by_cases h1 : μ 60 k.toNat < 0
  · exact ⟨0, by rw [if_pos h1]; rfl, by omega, by omega, fun _ => Or.inl h1⟩
  · rw [if_neg h1, at_in (by omega), Option.bind_some]
    by_cases h2 : μ 59 k.toNat = lane
    · rw [if_pos h2]
      by_cases h3 : f < 0
      · exact ⟨0, by rw [if_pos h3]; rfl, by omega, by omega, fun _ => Or.inr (Or.inr (Or.inl h3))⟩
      · rw [if_neg h3, Option.bind_some]
        by_cases h4 : f < μ 60 k.toNat
        · rw [if_pos h4, Option.bind_some, wI_id (by omega)]
          have hd : iDiv (μ 60 k.toNat - f) 2 = (μ 60 k.toNat - f) / 2 := by
            have : ∀ a : Fin 41, iDiv ((a.val : Nat) : Int) 2 = ((a.val : Nat) : Int) / 2 := by decide +kernel
            have h := this ⟨(μ 60 k.toNat - f).toNat, by omega⟩
            rw [show (((μ 60 k.toNat - f).toNat : Nat) : Int) = μ 60 k.toNat - f by omega] at h
            exact h
          rw [hd]
          refine ⟨(iMin n ((μ 60 k.toNat - f) / 2)).toNat, ?_, ?_, ?_, ?_⟩
          · congr 1; unfold iMin; split <;> omega
          · unfold iMin; split <;> omega
          · unfold iMin; split <;> omega
          · unfold iMin; split <;> omega
        · rw [if_neg h4]
          exact ⟨0, rfl, by omega, by omega, fun _ => by omega⟩
    · rw [if_neg h2]
      exact ⟨0, rfl, by omega, by omega, fun _ => Or.inr (Or.inl h2)⟩
