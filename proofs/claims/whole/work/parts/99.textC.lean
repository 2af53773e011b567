/-! ===== text: the end of a text, and all its lines ===== -/
theorem t83_ok {x : Int} {ν : Mem} (h : ν 61 23 = 0) : mod_text_83 x ν = some (x, kdM (mset ν 61 18 0)) := by
  rw [mod_text_83.eq_1, bnd.eq_1, if_pos (by rw [mset_ne (by omega)]; omega), mod_keepDraft_eq, Option.bind_some]
theorem t83_bad {x : Int} {ν : Mem} (h : 0 < ν 61 23) (h4 : 0 ≤ ν 61 24 ∧ ν 61 24 ≤ 400) : mod_text_83 x ν = some (-10 - ν 61 24, mset ν 61 18 0) := by
  rw [mod_text_83.eq_1, bnd.eq_1, mset_ne (k' := 61) (i' := 23) (by omega), if_neg (by omega), mset_ne (k' := 61) (i' := 24) (by omega), wI_id (by omega)]
theorem t44_sick {x : Int} {ν : Mem} (h : 0 < ν 61 23) : mod_text_44 x ν = mod_text_83 x ν := by
  rw [mod_text_44.eq_1, if_neg (by omega)]
theorem t68_sick {x s : Int} {ν : Mem} (h : 0 < ν 61 23) : mod_text_68 mod_text_83 x s ν = mod_text_83 x ν := by
  obtain ⟨t, t1, t2, t3⟩ := areRuts_eq ν
  rw [mod_text_68.eq_1, needs_sick h, Option.bind_some, t2, Option.bind_some, needs_sick h, Option.bind_some]
def Fin (μ0 ν0 : Mem) (c : Option (Int × Mem)) (m : Option (Int × Mem)) : Prop := ∃ r μ' ν', c = some (r, μ') ∧ Off Mrd μ0 μ' ∧ Off Mrf ν0 ν' ∧ ((0 ≤ r ∧ m = some (r, kdM (mset ν' 61 18 0)) ∧ DD μ' ν' ∧ μ' 25 3 = 0 ∧ ν' 61 23 = 0 ∧ μ' 25 11 ≤ μ' 27 9) ∨ (r = -1 ∧ m = some (-10 - ν' 61 24, mset ν' 61 18 0) ∧ Bad μ' ν'))
theorem Fin.tr {μ0 ν0 μ1 ν1 : Mem} {c m : Option (Int × Mem)} (h1 : Off Mrd μ0 μ1) (h2 : Off Mrf ν0 ν1) (H : Fin μ1 ν1 c m) : Fin μ0 ν0 c m := by
  obtain ⟨r, μ', ν', a1, a2, a3, a4⟩ := H
  exact ⟨r, μ', ν', a1, h1.tr a2, h2.tr a3, a4⟩
theorem Fin.bad {x : Int} {μ ν : Mem} (H : Bad μ ν) : Fin μ ν (some (-1, μ)) (mod_text_83 x ν) := ⟨-1, μ, ν, rfl, Off.rf, Off.rf, Or.inr ⟨rfl, t83_bad H.1 H.2.2.2, H⟩⟩
theorem Fin_end {B : Int → Int} {n x : Int} {μ ν : Mem} (hx : 0 ≤ x) (H : Had B n μ ν) (D : DD μ ν) (h5 : μ 25 5 = 0) : Fin μ ν ((rea_isWhole μ).bind fun u2 => if u2.1 = 0 then some (-1, u2.2) else some (x, u2.2)) (mod_text_44 x ν) := by
  have H' := H
  obtain ⟨h1, h2, h3, h4, h5', h6, p, va, hp, hT, hv⟩ := H'
  have hB := BIG_gt
  have efr : μ 25 6 = μ 25 1 := by
    rw [h1.1]
    obtain ⟨t1, t2, t3⟩ := hT
    rcases t3 with z | ⟨z1, z2, z⟩
    · exact z.1
    · rcases z with z | z | z | z <;> omega
  have d0 := D.d0
  have d13 := D.d13
  unfold dc_0 at d0
  unfold dc_13 at d13
  have bad : ∀ k : Int, 0 < k → Bad (mset (mset μ 25 3 k) 25 4 (μ 25 1)) (sickM ν k) := fun k hk => by rw [← efr]; exact H.bad hk
  have off : ∀ k : Int, Off Mrd μ (mset (mset μ 25 3 k) 25 4 (μ 25 1)) := fun k => rf_off.my.yrd
  rw [mod_text_44.eq_1, if_pos h4, rea_isWhole.eq_1]
  by_cases z : μ 25 11 ≤ μ 27 9
  · rw [if_pos z, if_neg (by omega), mod_text_68.eq_1, needs1, Option.bind_some]
    obtain ⟨t, t1, t2, t3⟩ := areRuts_eq ν
    obtain ⟨w1, w2⟩ := w27 D z 63 BIG 0 (by omega) (by omega)
    rw [t2, Option.bind_some]
    by_cases g : ∀ k : Nat, k < 63 → gdR ν k
    · have e := w1 (fun k _ k2 => g k k2)
      rw [show ((0 : Nat) : Int) = 0 from rfl] at e
      rw [e, Option.bind_some, t3.mpr g, needs1, Option.bind_some, t83_ok h4]
      dsimp only
      rw [if_neg (by omega)]
      exact ⟨x, μ, ν, rfl, Off.rf, Off.rf, Or.inl ⟨hx, rfl, D, h3, h4, z⟩⟩
    · have e := w2 (fun q => g (fun k k2 => q k (by omega) k2))
      rw [show ((0 : Nat) : Int) = 0 from rfl] at e
      have t0 : t = 0 := by
        rcases t1 with t1 | t1
        · exact t1
        · exact absurd (t3.mp t1) g
      rw [e, Option.bind_some, t0, needs0 h4, Option.bind_some]
      dsimp only
      rw [if_pos rfl]
      exact Fin.tr (off 7) (sickM_off.mz.zrf) (Fin.bad (bad 7 (by omega)))
  · rw [if_neg z, if_pos (by omega), refuse_eq, Option.bind_some, Option.bind_some, mod_text_68.eq_1, needs0 h4, Option.bind_some]
    have e := t68_sick (x := x) (s := 1) (ν := sickM ν 6) (by rw [sickM_23]; omega)
    rw [mod_text_68.eq_1, needs1, Option.bind_some] at e
    have e' : ((mod_areRuts (mset (mset ν 61 23 6) 61 24 (ν 61 20))).bind fun u2 => (mod_needs u2 7 (mset (mset ν 61 23 6) 61 24 (ν 61 20))).bind fun μ3 => mod_text_83 x μ3) = mod_text_83 x (sickM ν 6) := e
    rw [e']
    dsimp only
    rw [if_pos rfl]
    exact Fin.tr (off 6) (sickM_off.mz.zrf) (Fin.bad (bad 6 (by omega)))
theorem Tok_lt {B : Int → Int} {n p fr so en va : Int} (h : Tok B n p fr so en va 0) (hs : so ≠ 0) : p < en := by
  obtain ⟨⟨t1, t2⟩, t3, t4⟩ := h
  rcases t4 with z | ⟨z1, z2, z⟩
  · omega
  · rcases z with z | z | z | z <;> omega
theorem L_take7 {B : Int → Int} {n : Int} {μ ν : Mem} (H : Rdy B n μ ν) : ∃ u μ', rea_takeToken μ = some (u, μ') ∧ Off M25 μ μ' ∧ (u = 1 ∧ Had B n μ' ν ∧ (μ' 25 5 ≠ 0 → μ 25 7 < μ' 25 7) ∨ u = 0 ∧ Bad μ' ν) := by
  obtain ⟨u, μ', k1, k2, k3, k4⟩ := L_take H
  refine ⟨u, μ', k1, k2, ?_⟩
  rcases k4 with ⟨q1, q2⟩ | ⟨q1, q2⟩
  · refine Or.inl ⟨q1, q2, fun hs => ?_⟩
    obtain ⟨h1, h2, h3, h4, fr, so, en, va, bad, h5, h6⟩ := H
    obtain ⟨μ2, c1, c2, c3, c4, c5, c6, c7⟩ := ctake h1 rfl h3.1 h5
    rw [k1] at c1
    injection c1 with c1
    have e1 : u = 1 - bad := congrArg Prod.fst c1
    have e2 : μ' = μ2 := congrArg Prod.snd c1
    have e3 : bad = 0 := by omega
    subst e2
    rw [c4] at hs
    rw [c5]
    rw [e3] at h5
    exact Tok_lt h5 hs
  · exact Or.inr ⟨q1, q2⟩
theorem L_text {B : Int → Int} {n : Int} : ∀ (m f g : Nat) (x : Int) (μ ν : Mem), m < f → m < g → n - μ 25 7 ≤ m → 0 ≤ x → x ≤ μ 25 7 → Rdy B n μ ν → DD μ ν → Fin μ ν (rea_takeText_44 f x μ) (mod_text_20 g x ν) := by
  intro m
  induction m with
  | zero =>
    intro f g x μ ν hf hg hm h0 h1 H D
    obtain ⟨f, rfl⟩ : ∃ k, f = k + 1 := ⟨f - 1, by omega⟩
    obtain ⟨g, rfl⟩ : ∃ k, g = k + 1 := ⟨g - 1, by omega⟩
    have hn := H.1.2.1
    have h7 := H.2.2.1
    obtain ⟨u, μ1, k1, k2, k4⟩ := L_take7 H
    refine Fin.tr k2.my.yrd Off.rf ?_
    rw [rea_takeText_44.eq_2, if_neg (by omega), k1, Option.bind_some, mod_text_20.eq_2]
    dsimp only
    rcases k4 with ⟨q1, q2, q3⟩ | ⟨q1, q2⟩
    · have f0 := q2.2.2.2.1
      have e5 := q2.2.2.2.2.1.2.1
      have e7 := q2.2.2.2.2.2.1
      rw [if_neg (by omega), if_pos f0]
      by_cases s : μ1 25 5 = 0
      · rw [if_pos s, if_pos (by omega)]
        exact Fin_end h0 q2 (D.tok k2 Off.rf) s
      · have := q3 s; omega
    · rw [if_pos q1, if_neg (by have := q2.1; omega), t44_sick q2.1]
      exact Fin.bad q2
  | succ m ih =>
    intro f g x μ ν hf hg hm h0 h1 H D
    obtain ⟨f, rfl⟩ : ∃ k, f = k + 1 := ⟨f - 1, by omega⟩
    obtain ⟨g, rfl⟩ : ∃ k, g = k + 1 := ⟨g - 1, by omega⟩
    have hn := H.1.2.1
    have h7 := H.2.2.1
    obtain ⟨u, μ1, k1, k2, k4⟩ := L_take7 H
    refine Fin.tr k2.my.yrd Off.rf ?_
    rw [rea_takeText_44.eq_2, if_neg (by omega), k1, Option.bind_some, mod_text_20.eq_2]
    dsimp only
    rcases k4 with ⟨q1, q2, q3⟩ | ⟨q1, q2⟩
    · have f0 := q2.2.2.2.1
      have e5 := q2.2.2.2.2.1.2.1
      have D1 : DD μ1 ν := D.tok k2 Off.rf
      rw [if_neg (by omega), if_pos f0]
      by_cases s : μ1 25 5 = 0
      · rw [if_pos s, if_pos (by omega)]
        exact Fin_end h0 q2 D1 s
      · have lt := q3 s
        rw [if_neg s, if_neg (by omega)]
        obtain ⟨v, μ2, ν2, y1, y2, y3, y4, y5, y6⟩ := L_line q2 D1
        refine Fin.tr y3 y4 ?_
        rw [y1, Option.bind_some, y2, Option.bind_some]
        dsimp only
        rcases y6 with ⟨p1, p2, p3⟩ | ⟨p1, p2⟩
        · rw [if_neg (by omega), wI_id (by omega)]
          exact ih f g (x + 1) μ2 ν2 (by omega) (by omega) (by omega) (by omega) (by omega) p2 p3
        · obtain ⟨g, rfl⟩ : ∃ k, g = k + 1 := ⟨g - 1, by omega⟩
          rw [if_pos p1, wI_id (by omega), mod_text_20.eq_2, if_neg (by have := p2.1; omega), t44_sick p2.1]
          exact Fin.bad p2
    · rw [if_pos q1, if_neg (by have := q2.1; omega), t44_sick q2.1]
      exact Fin.bad q2
