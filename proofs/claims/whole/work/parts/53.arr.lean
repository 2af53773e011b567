theorem arr_cls {s : State} {args : Array Value} {ty : FieldType} (hp : ty = .int ∨ ty = .byte ∨ ty = .boolean) (h : (Cond.arrayClass ty).before args s = true) : ∃ cA : ClassId, ArrOfT s cA ty ∧ va_RA s cA ty := by
  have h2 := h
  simp only [Cond.before, Cond.holds, Cond.value] at h2
  cases hc : s.vm.findClass ("[" ++ ty.toString) with
  | none => rw [hc] at h2; simp at h2
  | some cA =>
    rw [hc] at h2
    cases hk : s.vm.classes[cA]? with
    | none => simp [hk] at h2
    | some kA =>
      refine ⟨cA, fun n z => ?_, ?_⟩
      · have : ∃ comp, kA.kind = .array comp ty := by
          simp [hk] at h2
          split at h2
          · rename_i comp t hkk
            exact ⟨comp, by rw [hkk]; simp at h2; rw [h2]⟩
          · simp at h2
        obtain ⟨comp, hcomp⟩ := this
        exact ⟨fun k h => (by cases h), kA, hk, comp, hcomp⟩
      · rcases hp with rfl | rfl | rfl <;> exact hc
