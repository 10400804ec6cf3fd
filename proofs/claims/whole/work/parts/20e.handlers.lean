def pm_nc9 : List (String × String) := [("java/lang/IllegalStateException", "java/lang/IllegalArgumentException"), ("java/lang/IllegalStateException", "java/lang/IndexOutOfBoundsException"), ("java/lang/IndexOutOfBoundsException", "java/lang/IllegalArgumentException"), ("java/lang/UnsupportedOperationException", "java/lang/IllegalArgumentException"), ("java/util/NoSuchElementException", "java/lang/IllegalArgumentException")]
theorem hok_249_7 : pm_hok pm_nc9 249 7 false [(0, 14)] := by
  refine ⟨fun h => (by cases h), fun E h hl => ?_⟩
  have hE : E < 5 ∨ ¬ E < 5 := Nat.lt_or_ge E 5 |>.imp id Nat.not_lt.mpr
  by_cases h0 : E = 0
  · subst h0
    cases hl
    refine ⟨tableOf [], tableOf [], ⟨0, 19, 22, 13⟩, "java/lang/IllegalArgumentException", _, rfl, ?_, by decide +kernel, by decide, List.mem_of_getElem? (i := 511) (by decide +kernel), List.mem_of_getElem? (i := 521) (by decide +kernel), rfl, Or.inr ⟨5, by decide +kernel, by decide, rfl⟩⟩
    intro z hz
    cases hz
  have hb : ∀ k : Nat, E ≠ k → (E == k) = false := fun k h => by simp [h]
  simp [List.lookup, hb _ h0] at hl
theorem hok_250_11 : pm_hok pm_nc9 250 11 false [(0, 13), (1, 16)] := by
  refine ⟨fun h => (by cases h), fun E h hl => ?_⟩
  have hE : E < 5 ∨ ¬ E < 5 := Nat.lt_or_ge E 5 |>.imp id Nat.not_lt.mpr
  by_cases h0 : E = 0
  · subst h0
    cases hl
    refine ⟨tableOf [], tableOf [(0, 16, 23, 19)], ⟨0, 16, 19, 13⟩, "java/lang/IllegalArgumentException", _, rfl, ?_, by decide +kernel, by decide, List.mem_of_getElem? (i := 511) (by decide +kernel), List.mem_of_getElem? (i := 521) (by decide +kernel), rfl, Or.inr ⟨7, by decide +kernel, by decide, rfl⟩⟩
    intro z hz
    cases hz
  by_cases h1 : E = 1
  · subst h1
    cases hl
    refine ⟨tableOf [(0, 16, 19, 13)], tableOf [], ⟨0, 16, 23, 19⟩, "java/lang/IllegalStateException", _, rfl, ?_, by decide +kernel, by decide, List.mem_of_getElem? (i := 629) (by decide +kernel), List.mem_of_getElem? (i := 644) (by decide +kernel), rfl, Or.inr ⟨7, by decide +kernel, by decide, rfl⟩⟩
    intro z hz
    rcases List.mem_cons.mp hz with rfl | hz
    · exact Or.inr ⟨by decide, "java/lang/IllegalArgumentException", List.mem_of_getElem? (i := 511) (by decide +kernel), List.mem_of_getElem? (i := 0) rfl⟩
    cases hz
  have hb : ∀ k : Nat, E ≠ k → (E == k) = false := fun k h => by simp [h]
  simp [List.lookup, hb _ h0, hb _ h1] at hl
theorem hok_251_9 : pm_hok pm_nc9 251 9 false [(0, 12), (2, 15)] := by
  refine ⟨fun h => (by cases h), fun E h hl => ?_⟩
  have hE : E < 5 ∨ ¬ E < 5 := Nat.lt_or_ge E 5 |>.imp id Nat.not_lt.mpr
  by_cases h0 : E = 0
  · subst h0
    cases hl
    refine ⟨tableOf [], tableOf [(0, 14, 21, 25)], ⟨0, 14, 17, 13⟩, "java/lang/IllegalArgumentException", _, rfl, ?_, by decide +kernel, by decide, List.mem_of_getElem? (i := 511) (by decide +kernel), List.mem_of_getElem? (i := 521) (by decide +kernel), rfl, Or.inr ⟨6, by decide +kernel, by decide, rfl⟩⟩
    intro z hz
    cases hz
  by_cases h1 : E = 2
  · subst h1
    cases hl
    refine ⟨tableOf [(0, 14, 17, 13)], tableOf [], ⟨0, 14, 21, 25⟩, "java/lang/IndexOutOfBoundsException", _, rfl, ?_, by decide +kernel, by decide, List.mem_of_getElem? (i := 681) (by decide +kernel), List.mem_of_getElem? (i := 692) (by decide +kernel), rfl, Or.inr ⟨6, by decide +kernel, by decide, rfl⟩⟩
    intro z hz
    rcases List.mem_cons.mp hz with rfl | hz
    · exact Or.inr ⟨by decide, "java/lang/IllegalArgumentException", List.mem_of_getElem? (i := 511) (by decide +kernel), List.mem_of_getElem? (i := 2) rfl⟩
    cases hz
  have hb : ∀ k : Nat, E ≠ k → (E == k) = false := fun k h => by simp [h]
  simp [List.lookup, hb _ h0, hb _ h1] at hl
theorem hok_252_9 : pm_hok pm_nc9 252 9 false [(0, 12), (2, 15), (1, 18)] := by
  refine ⟨fun h => (by cases h), fun E h hl => ?_⟩
  have hE : E < 5 ∨ ¬ E < 5 := Nat.lt_or_ge E 5 |>.imp id Nat.not_lt.mpr
  by_cases h0 : E = 0
  · subst h0
    cases hl
    refine ⟨tableOf [], tableOf [(0, 14, 21, 25), (0, 14, 25, 19)], ⟨0, 14, 17, 13⟩, "java/lang/IllegalArgumentException", _, rfl, ?_, by decide +kernel, by decide, List.mem_of_getElem? (i := 511) (by decide +kernel), List.mem_of_getElem? (i := 521) (by decide +kernel), rfl, Or.inr ⟨6, by decide +kernel, by decide, rfl⟩⟩
    intro z hz
    cases hz
  by_cases h1 : E = 2
  · subst h1
    cases hl
    refine ⟨tableOf [(0, 14, 17, 13)], tableOf [(0, 14, 25, 19)], ⟨0, 14, 21, 25⟩, "java/lang/IndexOutOfBoundsException", _, rfl, ?_, by decide +kernel, by decide, List.mem_of_getElem? (i := 681) (by decide +kernel), List.mem_of_getElem? (i := 692) (by decide +kernel), rfl, Or.inr ⟨6, by decide +kernel, by decide, rfl⟩⟩
    intro z hz
    rcases List.mem_cons.mp hz with rfl | hz
    · exact Or.inr ⟨by decide, "java/lang/IllegalArgumentException", List.mem_of_getElem? (i := 511) (by decide +kernel), List.mem_of_getElem? (i := 2) rfl⟩
    cases hz
  by_cases h2 : E = 1
  · subst h2
    cases hl
    refine ⟨tableOf [(0, 14, 17, 13), (0, 14, 21, 25)], tableOf [], ⟨0, 14, 25, 19⟩, "java/lang/IllegalStateException", _, rfl, ?_, by decide +kernel, by decide, List.mem_of_getElem? (i := 629) (by decide +kernel), List.mem_of_getElem? (i := 644) (by decide +kernel), rfl, Or.inr ⟨6, by decide +kernel, by decide, rfl⟩⟩
    intro z hz
    rcases List.mem_cons.mp hz with rfl | hz
    · exact Or.inr ⟨by decide, "java/lang/IllegalArgumentException", List.mem_of_getElem? (i := 511) (by decide +kernel), List.mem_of_getElem? (i := 0) rfl⟩
    rcases List.mem_cons.mp hz with rfl | hz
    · exact Or.inr ⟨by decide, "java/lang/IndexOutOfBoundsException", List.mem_of_getElem? (i := 681) (by decide +kernel), List.mem_of_getElem? (i := 1) rfl⟩
    cases hz
  have hb : ∀ k : Nat, E ≠ k → (E == k) = false := fun k h => by simp [h]
  simp [List.lookup, hb _ h0, hb _ h1, hb _ h2] at hl
theorem hok_253_5 : pm_hok pm_nc9 253 5 false [(0, 10), (2, 13)] := by
  refine ⟨fun h => (by cases h), fun E h hl => ?_⟩
  have hE : E < 5 ∨ ¬ E < 5 := Nat.lt_or_ge E 5 |>.imp id Nat.not_lt.mpr
  by_cases h0 : E = 0
  · subst h0
    cases hl
    refine ⟨tableOf [], tableOf [(0, 10, 17, 25)], ⟨0, 10, 13, 13⟩, "java/lang/IllegalArgumentException", _, rfl, ?_, by decide +kernel, by decide, List.mem_of_getElem? (i := 511) (by decide +kernel), List.mem_of_getElem? (i := 521) (by decide +kernel), rfl, Or.inr ⟨4, by decide +kernel, by decide, rfl⟩⟩
    intro z hz
    cases hz
  by_cases h1 : E = 2
  · subst h1
    cases hl
    refine ⟨tableOf [(0, 10, 13, 13)], tableOf [], ⟨0, 10, 17, 25⟩, "java/lang/IndexOutOfBoundsException", _, rfl, ?_, by decide +kernel, by decide, List.mem_of_getElem? (i := 681) (by decide +kernel), List.mem_of_getElem? (i := 692) (by decide +kernel), rfl, Or.inr ⟨4, by decide +kernel, by decide, rfl⟩⟩
    intro z hz
    rcases List.mem_cons.mp hz with rfl | hz
    · exact Or.inr ⟨by decide, "java/lang/IllegalArgumentException", List.mem_of_getElem? (i := 511) (by decide +kernel), List.mem_of_getElem? (i := 2) rfl⟩
    cases hz
  have hb : ∀ k : Nat, E ≠ k → (E == k) = false := fun k h => by simp [h]
  simp [List.lookup, hb _ h0, hb _ h1] at hl
theorem hok_254_4 : pm_hok pm_nc9 254 4 false [(0, 9)] := by
  refine ⟨fun h => (by cases h), fun E h hl => ?_⟩
  have hE : E < 5 ∨ ¬ E < 5 := Nat.lt_or_ge E 5 |>.imp id Nat.not_lt.mpr
  by_cases h0 : E = 0
  · subst h0
    cases hl
    refine ⟨tableOf [], tableOf [], ⟨0, 9, 12, 13⟩, "java/lang/IllegalArgumentException", _, rfl, ?_, by decide +kernel, by decide, List.mem_of_getElem? (i := 511) (by decide +kernel), List.mem_of_getElem? (i := 521) (by decide +kernel), rfl, Or.inl ⟨3, by decide +kernel, by decide, rfl⟩⟩
    intro z hz
    cases hz
  have hb : ∀ k : Nat, E ≠ k → (E == k) = false := fun k h => by simp [h]
  simp [List.lookup, hb _ h0] at hl
theorem hok_255_4 : pm_hok pm_nc9 255 4 false [(0, 9)] := by
  refine ⟨fun h => (by cases h), fun E h hl => ?_⟩
  have hE : E < 5 ∨ ¬ E < 5 := Nat.lt_or_ge E 5 |>.imp id Nat.not_lt.mpr
  by_cases h0 : E = 0
  · subst h0
    cases hl
    refine ⟨tableOf [], tableOf [], ⟨0, 9, 12, 13⟩, "java/lang/IllegalArgumentException", _, rfl, ?_, by decide +kernel, by decide, List.mem_of_getElem? (i := 511) (by decide +kernel), List.mem_of_getElem? (i := 521) (by decide +kernel), rfl, Or.inl ⟨3, by decide +kernel, by decide, rfl⟩⟩
    intro z hz
    cases hz
  have hb : ∀ k : Nat, E ≠ k → (E == k) = false := fun k h => by simp [h]
  simp [List.lookup, hb _ h0] at hl
theorem hok_256_7 : pm_hok pm_nc9 256 7 false [(0, 11), (2, 14)] := by
  refine ⟨fun h => (by cases h), fun E h hl => ?_⟩
  have hE : E < 5 ∨ ¬ E < 5 := Nat.lt_or_ge E 5 |>.imp id Nat.not_lt.mpr
  by_cases h0 : E = 0
  · subst h0
    cases hl
    refine ⟨tableOf [], tableOf [(0, 12, 19, 25)], ⟨0, 12, 15, 13⟩, "java/lang/IllegalArgumentException", _, rfl, ?_, by decide +kernel, by decide, List.mem_of_getElem? (i := 511) (by decide +kernel), List.mem_of_getElem? (i := 521) (by decide +kernel), rfl, Or.inr ⟨5, by decide +kernel, by decide, rfl⟩⟩
    intro z hz
    cases hz
  by_cases h1 : E = 2
  · subst h1
    cases hl
    refine ⟨tableOf [(0, 12, 15, 13)], tableOf [], ⟨0, 12, 19, 25⟩, "java/lang/IndexOutOfBoundsException", _, rfl, ?_, by decide +kernel, by decide, List.mem_of_getElem? (i := 681) (by decide +kernel), List.mem_of_getElem? (i := 692) (by decide +kernel), rfl, Or.inr ⟨5, by decide +kernel, by decide, rfl⟩⟩
    intro z hz
    rcases List.mem_cons.mp hz with rfl | hz
    · exact Or.inr ⟨by decide, "java/lang/IllegalArgumentException", List.mem_of_getElem? (i := 511) (by decide +kernel), List.mem_of_getElem? (i := 2) rfl⟩
    cases hz
  have hb : ∀ k : Nat, E ≠ k → (E == k) = false := fun k h => by simp [h]
  simp [List.lookup, hb _ h0, hb _ h1] at hl
theorem hok_257_9 : pm_hok pm_nc9 257 9 false [(0, 12), (2, 15)] := by
  refine ⟨fun h => (by cases h), fun E h hl => ?_⟩
  have hE : E < 5 ∨ ¬ E < 5 := Nat.lt_or_ge E 5 |>.imp id Nat.not_lt.mpr
  by_cases h0 : E = 0
  · subst h0
    cases hl
    refine ⟨tableOf [], tableOf [(0, 14, 21, 25)], ⟨0, 14, 17, 13⟩, "java/lang/IllegalArgumentException", _, rfl, ?_, by decide +kernel, by decide, List.mem_of_getElem? (i := 511) (by decide +kernel), List.mem_of_getElem? (i := 521) (by decide +kernel), rfl, Or.inr ⟨6, by decide +kernel, by decide, rfl⟩⟩
    intro z hz
    cases hz
  by_cases h1 : E = 2
  · subst h1
    cases hl
    refine ⟨tableOf [(0, 14, 17, 13)], tableOf [], ⟨0, 14, 21, 25⟩, "java/lang/IndexOutOfBoundsException", _, rfl, ?_, by decide +kernel, by decide, List.mem_of_getElem? (i := 681) (by decide +kernel), List.mem_of_getElem? (i := 692) (by decide +kernel), rfl, Or.inr ⟨6, by decide +kernel, by decide, rfl⟩⟩
    intro z hz
    rcases List.mem_cons.mp hz with rfl | hz
    · exact Or.inr ⟨by decide, "java/lang/IllegalArgumentException", List.mem_of_getElem? (i := 511) (by decide +kernel), List.mem_of_getElem? (i := 2) rfl⟩
    cases hz
  have hb : ∀ k : Nat, E ≠ k → (E == k) = false := fun k h => by simp [h]
  simp [List.lookup, hb _ h0, hb _ h1] at hl
theorem hok_258_7 : pm_hok pm_nc9 258 7 false [(0, 11), (2, 14)] := by
  refine ⟨fun h => (by cases h), fun E h hl => ?_⟩
  have hE : E < 5 ∨ ¬ E < 5 := Nat.lt_or_ge E 5 |>.imp id Nat.not_lt.mpr
  by_cases h0 : E = 0
  · subst h0
    cases hl
    refine ⟨tableOf [], tableOf [(0, 12, 19, 25)], ⟨0, 12, 15, 13⟩, "java/lang/IllegalArgumentException", _, rfl, ?_, by decide +kernel, by decide, List.mem_of_getElem? (i := 511) (by decide +kernel), List.mem_of_getElem? (i := 521) (by decide +kernel), rfl, Or.inr ⟨5, by decide +kernel, by decide, rfl⟩⟩
    intro z hz
    cases hz
  by_cases h1 : E = 2
  · subst h1
    cases hl
    refine ⟨tableOf [(0, 12, 15, 13)], tableOf [], ⟨0, 12, 19, 25⟩, "java/lang/IndexOutOfBoundsException", _, rfl, ?_, by decide +kernel, by decide, List.mem_of_getElem? (i := 681) (by decide +kernel), List.mem_of_getElem? (i := 692) (by decide +kernel), rfl, Or.inr ⟨5, by decide +kernel, by decide, rfl⟩⟩
    intro z hz
    rcases List.mem_cons.mp hz with rfl | hz
    · exact Or.inr ⟨by decide, "java/lang/IllegalArgumentException", List.mem_of_getElem? (i := 511) (by decide +kernel), List.mem_of_getElem? (i := 2) rfl⟩
    cases hz
  have hb : ∀ k : Nat, E ≠ k → (E == k) = false := fun k h => by simp [h]
  simp [List.lookup, hb _ h0, hb _ h1] at hl
theorem hok_259_9 : pm_hok pm_nc9 259 9 false [(0, 12), (2, 15)] := by
  refine ⟨fun h => (by cases h), fun E h hl => ?_⟩
  have hE : E < 5 ∨ ¬ E < 5 := Nat.lt_or_ge E 5 |>.imp id Nat.not_lt.mpr
  by_cases h0 : E = 0
  · subst h0
    cases hl
    refine ⟨tableOf [], tableOf [(0, 14, 21, 25)], ⟨0, 14, 17, 13⟩, "java/lang/IllegalArgumentException", _, rfl, ?_, by decide +kernel, by decide, List.mem_of_getElem? (i := 511) (by decide +kernel), List.mem_of_getElem? (i := 521) (by decide +kernel), rfl, Or.inr ⟨6, by decide +kernel, by decide, rfl⟩⟩
    intro z hz
    cases hz
  by_cases h1 : E = 2
  · subst h1
    cases hl
    refine ⟨tableOf [(0, 14, 17, 13)], tableOf [], ⟨0, 14, 21, 25⟩, "java/lang/IndexOutOfBoundsException", _, rfl, ?_, by decide +kernel, by decide, List.mem_of_getElem? (i := 681) (by decide +kernel), List.mem_of_getElem? (i := 692) (by decide +kernel), rfl, Or.inr ⟨6, by decide +kernel, by decide, rfl⟩⟩
    intro z hz
    rcases List.mem_cons.mp hz with rfl | hz
    · exact Or.inr ⟨by decide, "java/lang/IllegalArgumentException", List.mem_of_getElem? (i := 511) (by decide +kernel), List.mem_of_getElem? (i := 2) rfl⟩
    cases hz
  have hb : ∀ k : Nat, E ≠ k → (E == k) = false := fun k h => by simp [h]
  simp [List.lookup, hb _ h0, hb _ h1] at hl
theorem hok_260_4 : pm_hok pm_nc9 260 4 false [(1, 9)] := by
  refine ⟨fun h => (by cases h), fun E h hl => ?_⟩
  have hE : E < 5 ∨ ¬ E < 5 := Nat.lt_or_ge E 5 |>.imp id Nat.not_lt.mpr
  by_cases h0 : E = 1
  · subst h0
    cases hl
    refine ⟨tableOf [], tableOf [], ⟨0, 9, 12, 19⟩, "java/lang/IllegalStateException", _, rfl, ?_, by decide +kernel, by decide, List.mem_of_getElem? (i := 629) (by decide +kernel), List.mem_of_getElem? (i := 644) (by decide +kernel), rfl, Or.inl ⟨3, by decide +kernel, by decide, rfl⟩⟩
    intro z hz
    cases hz
  have hb : ∀ k : Nat, E ≠ k → (E == k) = false := fun k h => by simp [h]
  simp [List.lookup, hb _ h0] at hl
theorem hok_261_4 : pm_hok pm_nc9 261 4 false [(0, 9), (1, 12)] := by
  refine ⟨fun h => (by cases h), fun E h hl => ?_⟩
  have hE : E < 5 ∨ ¬ E < 5 := Nat.lt_or_ge E 5 |>.imp id Nat.not_lt.mpr
  by_cases h0 : E = 0
  · subst h0
    cases hl
    refine ⟨tableOf [], tableOf [(0, 9, 15, 19)], ⟨0, 9, 12, 13⟩, "java/lang/IllegalArgumentException", _, rfl, ?_, by decide +kernel, by decide, List.mem_of_getElem? (i := 511) (by decide +kernel), List.mem_of_getElem? (i := 521) (by decide +kernel), rfl, Or.inl ⟨3, by decide +kernel, by decide, rfl⟩⟩
    intro z hz
    cases hz
  by_cases h1 : E = 1
  · subst h1
    cases hl
    refine ⟨tableOf [(0, 9, 12, 13)], tableOf [], ⟨0, 9, 15, 19⟩, "java/lang/IllegalStateException", _, rfl, ?_, by decide +kernel, by decide, List.mem_of_getElem? (i := 629) (by decide +kernel), List.mem_of_getElem? (i := 644) (by decide +kernel), rfl, Or.inl ⟨3, by decide +kernel, by decide, rfl⟩⟩
    intro z hz
    rcases List.mem_cons.mp hz with rfl | hz
    · exact Or.inr ⟨by decide, "java/lang/IllegalArgumentException", List.mem_of_getElem? (i := 511) (by decide +kernel), List.mem_of_getElem? (i := 0) rfl⟩
    cases hz
  have hb : ∀ k : Nat, E ≠ k → (E == k) = false := fun k h => by simp [h]
  simp [List.lookup, hb _ h0, hb _ h1] at hl
theorem hok_262_4 : pm_hok pm_nc9 262 4 false [(0, 9), (1, 12)] := by
  refine ⟨fun h => (by cases h), fun E h hl => ?_⟩
  have hE : E < 5 ∨ ¬ E < 5 := Nat.lt_or_ge E 5 |>.imp id Nat.not_lt.mpr
  by_cases h0 : E = 0
  · subst h0
    cases hl
    refine ⟨tableOf [], tableOf [(0, 9, 15, 19)], ⟨0, 9, 12, 13⟩, "java/lang/IllegalArgumentException", _, rfl, ?_, by decide +kernel, by decide, List.mem_of_getElem? (i := 511) (by decide +kernel), List.mem_of_getElem? (i := 521) (by decide +kernel), rfl, Or.inl ⟨3, by decide +kernel, by decide, rfl⟩⟩
    intro z hz
    cases hz
  by_cases h1 : E = 1
  · subst h1
    cases hl
    refine ⟨tableOf [(0, 9, 12, 13)], tableOf [], ⟨0, 9, 15, 19⟩, "java/lang/IllegalStateException", _, rfl, ?_, by decide +kernel, by decide, List.mem_of_getElem? (i := 629) (by decide +kernel), List.mem_of_getElem? (i := 644) (by decide +kernel), rfl, Or.inl ⟨3, by decide +kernel, by decide, rfl⟩⟩
    intro z hz
    rcases List.mem_cons.mp hz with rfl | hz
    · exact Or.inr ⟨by decide, "java/lang/IllegalArgumentException", List.mem_of_getElem? (i := 511) (by decide +kernel), List.mem_of_getElem? (i := 0) rfl⟩
    cases hz
  have hb : ∀ k : Nat, E ≠ k → (E == k) = false := fun k h => by simp [h]
  simp [List.lookup, hb _ h0, hb _ h1] at hl
theorem hok_263_4 : pm_hok pm_nc9 263 4 false [(2, 9)] := by
  refine ⟨fun h => (by cases h), fun E h hl => ?_⟩
  have hE : E < 5 ∨ ¬ E < 5 := Nat.lt_or_ge E 5 |>.imp id Nat.not_lt.mpr
  by_cases h0 : E = 2
  · subst h0
    cases hl
    refine ⟨tableOf [], tableOf [], ⟨0, 9, 12, 25⟩, "java/lang/IndexOutOfBoundsException", _, rfl, ?_, by decide +kernel, by decide, List.mem_of_getElem? (i := 681) (by decide +kernel), List.mem_of_getElem? (i := 692) (by decide +kernel), rfl, Or.inl ⟨3, by decide +kernel, by decide, rfl⟩⟩
    intro z hz
    cases hz
  have hb : ∀ k : Nat, E ≠ k → (E == k) = false := fun k h => by simp [h]
  simp [List.lookup, hb _ h0] at hl
theorem hok_264_4 : pm_hok pm_nc9 264 4 false [(0, 8)] := by
  refine ⟨fun h => (by cases h), fun E h hl => ?_⟩
  have hE : E < 5 ∨ ¬ E < 5 := Nat.lt_or_ge E 5 |>.imp id Nat.not_lt.mpr
  by_cases h0 : E = 0
  · subst h0
    cases hl
    refine ⟨tableOf [], tableOf [], ⟨0, 8, 11, 13⟩, "java/lang/IllegalArgumentException", _, rfl, ?_, by decide +kernel, by decide, List.mem_of_getElem? (i := 511) (by decide +kernel), List.mem_of_getElem? (i := 521) (by decide +kernel), rfl, Or.inl ⟨3, by decide +kernel, by decide, rfl⟩⟩
    intro z hz
    cases hz
  have hb : ∀ k : Nat, E ≠ k → (E == k) = false := fun k h => by simp [h]
  simp [List.lookup, hb _ h0] at hl
theorem hok_265_5 : pm_hok pm_nc9 265 5 false [(0, 10), (3, 13)] := by
  refine ⟨fun h => (by cases h), fun E h hl => ?_⟩
  have hE : E < 5 ∨ ¬ E < 5 := Nat.lt_or_ge E 5 |>.imp id Nat.not_lt.mpr
  by_cases h0 : E = 0
  · subst h0
    cases hl
    refine ⟨tableOf [], tableOf [(0, 10, 17, 77)], ⟨0, 10, 13, 13⟩, "java/lang/IllegalArgumentException", _, rfl, ?_, by decide +kernel, by decide, List.mem_of_getElem? (i := 511) (by decide +kernel), List.mem_of_getElem? (i := 521) (by decide +kernel), rfl, Or.inr ⟨4, by decide +kernel, by decide, rfl⟩⟩
    intro z hz
    cases hz
  by_cases h1 : E = 3
  · subst h1
    cases hl
    refine ⟨tableOf [(0, 10, 13, 13)], tableOf [], ⟨0, 10, 17, 77⟩, "java/util/NoSuchElementException", _, rfl, ?_, by decide +kernel, by decide, List.mem_of_getElem? (i := 971) (by decide +kernel), List.mem_of_getElem? (i := 1012) (by decide +kernel), rfl, Or.inr ⟨4, by decide +kernel, by decide, rfl⟩⟩
    intro z hz
    rcases List.mem_cons.mp hz with rfl | hz
    · exact Or.inr ⟨by decide, "java/lang/IllegalArgumentException", List.mem_of_getElem? (i := 511) (by decide +kernel), List.mem_of_getElem? (i := 4) rfl⟩
    cases hz
  have hb : ∀ k : Nat, E ≠ k → (E == k) = false := fun k h => by simp [h]
  simp [List.lookup, hb _ h0, hb _ h1] at hl
theorem hok_266_4 : pm_hok pm_nc9 266 4 false [(2, 9)] := by
  refine ⟨fun h => (by cases h), fun E h hl => ?_⟩
  have hE : E < 5 ∨ ¬ E < 5 := Nat.lt_or_ge E 5 |>.imp id Nat.not_lt.mpr
  by_cases h0 : E = 2
  · subst h0
    cases hl
    refine ⟨tableOf [], tableOf [], ⟨0, 9, 12, 25⟩, "java/lang/IndexOutOfBoundsException", _, rfl, ?_, by decide +kernel, by decide, List.mem_of_getElem? (i := 681) (by decide +kernel), List.mem_of_getElem? (i := 692) (by decide +kernel), rfl, Or.inl ⟨3, by decide +kernel, by decide, rfl⟩⟩
    intro z hz
    cases hz
  have hb : ∀ k : Nat, E ≠ k → (E == k) = false := fun k h => by simp [h]
  simp [List.lookup, hb _ h0] at hl
theorem hok_267_3 : pm_hok pm_nc9 267 3 false [(1, 8)] := by
  refine ⟨fun h => (by cases h), fun E h hl => ?_⟩
  have hE : E < 5 ∨ ¬ E < 5 := Nat.lt_or_ge E 5 |>.imp id Nat.not_lt.mpr
  by_cases h0 : E = 1
  · subst h0
    cases hl
    refine ⟨tableOf [], tableOf [], ⟨0, 8, 11, 19⟩, "java/lang/IllegalStateException", _, rfl, ?_, by decide +kernel, by decide, List.mem_of_getElem? (i := 629) (by decide +kernel), List.mem_of_getElem? (i := 644) (by decide +kernel), rfl, Or.inl ⟨2, by decide +kernel, by decide, rfl⟩⟩
    intro z hz
    cases hz
  have hb : ∀ k : Nat, E ≠ k → (E == k) = false := fun k h => by simp [h]
  simp [List.lookup, hb _ h0] at hl
theorem hok_268_5 : pm_hok pm_nc9 268 5 false [(0, 9)] := by
  refine ⟨fun h => (by cases h), fun E h hl => ?_⟩
  have hE : E < 5 ∨ ¬ E < 5 := Nat.lt_or_ge E 5 |>.imp id Nat.not_lt.mpr
  by_cases h0 : E = 0
  · subst h0
    cases hl
    refine ⟨tableOf [], tableOf [], ⟨0, 9, 12, 13⟩, "java/lang/IllegalArgumentException", _, rfl, ?_, by decide +kernel, by decide, List.mem_of_getElem? (i := 511) (by decide +kernel), List.mem_of_getElem? (i := 521) (by decide +kernel), rfl, Or.inr ⟨4, by decide +kernel, by decide, rfl⟩⟩
    intro z hz
    cases hz
  have hb : ∀ k : Nat, E ≠ k → (E == k) = false := fun k h => by simp [h]
  simp [List.lookup, hb _ h0] at hl
theorem hok_269_5 : pm_hok pm_nc9 269 5 false [(0, 9)] := by
  refine ⟨fun h => (by cases h), fun E h hl => ?_⟩
  have hE : E < 5 ∨ ¬ E < 5 := Nat.lt_or_ge E 5 |>.imp id Nat.not_lt.mpr
  by_cases h0 : E = 0
  · subst h0
    cases hl
    refine ⟨tableOf [], tableOf [], ⟨0, 9, 12, 13⟩, "java/lang/IllegalArgumentException", _, rfl, ?_, by decide +kernel, by decide, List.mem_of_getElem? (i := 511) (by decide +kernel), List.mem_of_getElem? (i := 521) (by decide +kernel), rfl, Or.inr ⟨4, by decide +kernel, by decide, rfl⟩⟩
    intro z hz
    cases hz
  have hb : ∀ k : Nat, E ≠ k → (E == k) = false := fun k h => by simp [h]
  simp [List.lookup, hb _ h0] at hl
theorem hok_270_4 : pm_hok pm_nc9 270 4 false [(0, 9), (3, 12)] := by
  refine ⟨fun h => (by cases h), fun E h hl => ?_⟩
  have hE : E < 5 ∨ ¬ E < 5 := Nat.lt_or_ge E 5 |>.imp id Nat.not_lt.mpr
  by_cases h0 : E = 0
  · subst h0
    cases hl
    refine ⟨tableOf [], tableOf [(0, 9, 15, 77)], ⟨0, 9, 12, 13⟩, "java/lang/IllegalArgumentException", _, rfl, ?_, by decide +kernel, by decide, List.mem_of_getElem? (i := 511) (by decide +kernel), List.mem_of_getElem? (i := 521) (by decide +kernel), rfl, Or.inl ⟨3, by decide +kernel, by decide, rfl⟩⟩
    intro z hz
    cases hz
  by_cases h1 : E = 3
  · subst h1
    cases hl
    refine ⟨tableOf [(0, 9, 12, 13)], tableOf [], ⟨0, 9, 15, 77⟩, "java/util/NoSuchElementException", _, rfl, ?_, by decide +kernel, by decide, List.mem_of_getElem? (i := 971) (by decide +kernel), List.mem_of_getElem? (i := 1012) (by decide +kernel), rfl, Or.inl ⟨3, by decide +kernel, by decide, rfl⟩⟩
    intro z hz
    rcases List.mem_cons.mp hz with rfl | hz
    · exact Or.inr ⟨by decide, "java/lang/IllegalArgumentException", List.mem_of_getElem? (i := 511) (by decide +kernel), List.mem_of_getElem? (i := 4) rfl⟩
    cases hz
  have hb : ∀ k : Nat, E ≠ k → (E == k) = false := fun k h => by simp [h]
  simp [List.lookup, hb _ h0, hb _ h1] at hl
theorem hok_271_4 : pm_hok pm_nc9 271 4 false [(0, 9)] := by
  refine ⟨fun h => (by cases h), fun E h hl => ?_⟩
  have hE : E < 5 ∨ ¬ E < 5 := Nat.lt_or_ge E 5 |>.imp id Nat.not_lt.mpr
  by_cases h0 : E = 0
  · subst h0
    cases hl
    refine ⟨tableOf [], tableOf [], ⟨0, 9, 12, 13⟩, "java/lang/IllegalArgumentException", _, rfl, ?_, by decide +kernel, by decide, List.mem_of_getElem? (i := 511) (by decide +kernel), List.mem_of_getElem? (i := 521) (by decide +kernel), rfl, Or.inl ⟨3, by decide +kernel, by decide, rfl⟩⟩
    intro z hz
    cases hz
  have hb : ∀ k : Nat, E ≠ k → (E == k) = false := fun k h => by simp [h]
  simp [List.lookup, hb _ h0] at hl
theorem hok_272_4 : pm_hok pm_nc9 272 4 false [(0, 12)] := by
  refine ⟨fun h => (by cases h), fun E h hl => ?_⟩
  have hE : E < 5 ∨ ¬ E < 5 := Nat.lt_or_ge E 5 |>.imp id Nat.not_lt.mpr
  by_cases h0 : E = 0
  · subst h0
    cases hl
    refine ⟨tableOf [], tableOf [], ⟨0, 16, 19, 13⟩, "java/lang/IllegalArgumentException", _, rfl, ?_, by decide +kernel, by decide, List.mem_of_getElem? (i := 511) (by decide +kernel), List.mem_of_getElem? (i := 521) (by decide +kernel), rfl, Or.inl ⟨3, by decide +kernel, by decide, rfl⟩⟩
    intro z hz
    cases hz
  have hb : ∀ k : Nat, E ≠ k → (E == k) = false := fun k h => by simp [h]
  simp [List.lookup, hb _ h0] at hl
theorem hok_273_4 : pm_hok pm_nc9 273 4 false [(0, 12)] := by
  refine ⟨fun h => (by cases h), fun E h hl => ?_⟩
  have hE : E < 5 ∨ ¬ E < 5 := Nat.lt_or_ge E 5 |>.imp id Nat.not_lt.mpr
  by_cases h0 : E = 0
  · subst h0
    cases hl
    refine ⟨tableOf [], tableOf [], ⟨0, 16, 19, 13⟩, "java/lang/IllegalArgumentException", _, rfl, ?_, by decide +kernel, by decide, List.mem_of_getElem? (i := 511) (by decide +kernel), List.mem_of_getElem? (i := 521) (by decide +kernel), rfl, Or.inl ⟨3, by decide +kernel, by decide, rfl⟩⟩
    intro z hz
    cases hz
  have hb : ∀ k : Nat, E ≠ k → (E == k) = false := fun k h => by simp [h]
  simp [List.lookup, hb _ h0] at hl
theorem hok_274_5 : pm_hok pm_nc9 274 5 false [(0, 13), (1, 16)] := by
  refine ⟨fun h => (by cases h), fun E h hl => ?_⟩
  have hE : E < 5 ∨ ¬ E < 5 := Nat.lt_or_ge E 5 |>.imp id Nat.not_lt.mpr
  by_cases h0 : E = 0
  · subst h0
    cases hl
    refine ⟨tableOf [], tableOf [(0, 17, 24, 19)], ⟨0, 17, 20, 13⟩, "java/lang/IllegalArgumentException", _, rfl, ?_, by decide +kernel, by decide, List.mem_of_getElem? (i := 511) (by decide +kernel), List.mem_of_getElem? (i := 521) (by decide +kernel), rfl, Or.inr ⟨4, by decide +kernel, by decide, rfl⟩⟩
    intro z hz
    cases hz
  by_cases h1 : E = 1
  · subst h1
    cases hl
    refine ⟨tableOf [(0, 17, 20, 13)], tableOf [], ⟨0, 17, 24, 19⟩, "java/lang/IllegalStateException", _, rfl, ?_, by decide +kernel, by decide, List.mem_of_getElem? (i := 629) (by decide +kernel), List.mem_of_getElem? (i := 644) (by decide +kernel), rfl, Or.inr ⟨4, by decide +kernel, by decide, rfl⟩⟩
    intro z hz
    rcases List.mem_cons.mp hz with rfl | hz
    · exact Or.inr ⟨by decide, "java/lang/IllegalArgumentException", List.mem_of_getElem? (i := 511) (by decide +kernel), List.mem_of_getElem? (i := 0) rfl⟩
    cases hz
  have hb : ∀ k : Nat, E ≠ k → (E == k) = false := fun k h => by simp [h]
  simp [List.lookup, hb _ h0, hb _ h1] at hl
theorem hok_275_5 : pm_hok pm_nc9 275 5 false [(0, 13)] := by
  refine ⟨fun h => (by cases h), fun E h hl => ?_⟩
  have hE : E < 5 ∨ ¬ E < 5 := Nat.lt_or_ge E 5 |>.imp id Nat.not_lt.mpr
  by_cases h0 : E = 0
  · subst h0
    cases hl
    refine ⟨tableOf [], tableOf [], ⟨0, 17, 20, 13⟩, "java/lang/IllegalArgumentException", _, rfl, ?_, by decide +kernel, by decide, List.mem_of_getElem? (i := 511) (by decide +kernel), List.mem_of_getElem? (i := 521) (by decide +kernel), rfl, Or.inr ⟨4, by decide +kernel, by decide, rfl⟩⟩
    intro z hz
    cases hz
  have hb : ∀ k : Nat, E ≠ k → (E == k) = false := fun k h => by simp [h]
  simp [List.lookup, hb _ h0] at hl
theorem hok_276_7 : pm_hok pm_nc9 276 7 false [(0, 11), (4, 14)] := by
  refine ⟨fun h => (by cases h), fun E h hl => ?_⟩
  have hE : E < 5 ∨ ¬ E < 5 := Nat.lt_or_ge E 5 |>.imp id Nat.not_lt.mpr
  by_cases h0 : E = 0
  · subst h0
    cases hl
    refine ⟨tableOf [], tableOf [(0, 12, 19, 117)], ⟨0, 12, 15, 13⟩, "java/lang/IllegalArgumentException", _, rfl, ?_, by decide +kernel, by decide, List.mem_of_getElem? (i := 511) (by decide +kernel), List.mem_of_getElem? (i := 521) (by decide +kernel), rfl, Or.inr ⟨5, by decide +kernel, by decide, rfl⟩⟩
    intro z hz
    cases hz
  by_cases h1 : E = 4
  · subst h1
    cases hl
    refine ⟨tableOf [(0, 12, 15, 13)], tableOf [], ⟨0, 12, 19, 117⟩, "java/lang/UnsupportedOperationException", _, rfl, ?_, by decide +kernel, by decide, List.mem_of_getElem? (i := 1297) (by decide +kernel), List.mem_of_getElem? (i := 1356) (by decide +kernel), rfl, Or.inr ⟨5, by decide +kernel, by decide, rfl⟩⟩
    intro z hz
    rcases List.mem_cons.mp hz with rfl | hz
    · exact Or.inr ⟨by decide, "java/lang/IllegalArgumentException", List.mem_of_getElem? (i := 511) (by decide +kernel), List.mem_of_getElem? (i := 3) rfl⟩
    cases hz
  have hb : ∀ k : Nat, E ≠ k → (E == k) = false := fun k h => by simp [h]
  simp [List.lookup, hb _ h0, hb _ h1] at hl
theorem hok_277_5 : pm_hok pm_nc9 277 5 false [(0, 10), (1, 13)] := by
  refine ⟨fun h => (by cases h), fun E h hl => ?_⟩
  have hE : E < 5 ∨ ¬ E < 5 := Nat.lt_or_ge E 5 |>.imp id Nat.not_lt.mpr
  by_cases h0 : E = 0
  · subst h0
    cases hl
    refine ⟨tableOf [], tableOf [(0, 10, 17, 19)], ⟨0, 10, 13, 13⟩, "java/lang/IllegalArgumentException", _, rfl, ?_, by decide +kernel, by decide, List.mem_of_getElem? (i := 511) (by decide +kernel), List.mem_of_getElem? (i := 521) (by decide +kernel), rfl, Or.inr ⟨4, by decide +kernel, by decide, rfl⟩⟩
    intro z hz
    cases hz
  by_cases h1 : E = 1
  · subst h1
    cases hl
    refine ⟨tableOf [(0, 10, 13, 13)], tableOf [], ⟨0, 10, 17, 19⟩, "java/lang/IllegalStateException", _, rfl, ?_, by decide +kernel, by decide, List.mem_of_getElem? (i := 629) (by decide +kernel), List.mem_of_getElem? (i := 644) (by decide +kernel), rfl, Or.inr ⟨4, by decide +kernel, by decide, rfl⟩⟩
    intro z hz
    rcases List.mem_cons.mp hz with rfl | hz
    · exact Or.inr ⟨by decide, "java/lang/IllegalArgumentException", List.mem_of_getElem? (i := 511) (by decide +kernel), List.mem_of_getElem? (i := 0) rfl⟩
    cases hz
  have hb : ∀ k : Nat, E ≠ k → (E == k) = false := fun k h => by simp [h]
  simp [List.lookup, hb _ h0, hb _ h1] at hl
theorem hok_278_7 : pm_hok pm_nc9 278 7 false [(0, 11)] := by
  refine ⟨fun h => (by cases h), fun E h hl => ?_⟩
  have hE : E < 5 ∨ ¬ E < 5 := Nat.lt_or_ge E 5 |>.imp id Nat.not_lt.mpr
  by_cases h0 : E = 0
  · subst h0
    cases hl
    refine ⟨tableOf [], tableOf [], ⟨0, 12, 15, 13⟩, "java/lang/IllegalArgumentException", _, rfl, ?_, by decide +kernel, by decide, List.mem_of_getElem? (i := 511) (by decide +kernel), List.mem_of_getElem? (i := 521) (by decide +kernel), rfl, Or.inr ⟨5, by decide +kernel, by decide, rfl⟩⟩
    intro z hz
    cases hz
  have hb : ∀ k : Nat, E ≠ k → (E == k) = false := fun k h => by simp [h]
  simp [List.lookup, hb _ h0] at hl
theorem hok_279_4 : pm_hok pm_nc9 279 4 false [(0, 9)] := by
  refine ⟨fun h => (by cases h), fun E h hl => ?_⟩
  have hE : E < 5 ∨ ¬ E < 5 := Nat.lt_or_ge E 5 |>.imp id Nat.not_lt.mpr
  by_cases h0 : E = 0
  · subst h0
    cases hl
    refine ⟨tableOf [], tableOf [], ⟨0, 9, 12, 13⟩, "java/lang/IllegalArgumentException", _, rfl, ?_, by decide +kernel, by decide, List.mem_of_getElem? (i := 511) (by decide +kernel), List.mem_of_getElem? (i := 521) (by decide +kernel), rfl, Or.inl ⟨3, by decide +kernel, by decide, rfl⟩⟩
    intro z hz
    cases hz
  have hb : ∀ k : Nat, E ≠ k → (E == k) = false := fun k h => by simp [h]
  simp [List.lookup, hb _ h0] at hl
theorem hok_280_5 : pm_hok pm_nc9 280 5 false [(0, 10)] := by
  refine ⟨fun h => (by cases h), fun E h hl => ?_⟩
  have hE : E < 5 ∨ ¬ E < 5 := Nat.lt_or_ge E 5 |>.imp id Nat.not_lt.mpr
  by_cases h0 : E = 0
  · subst h0
    cases hl
    refine ⟨tableOf [], tableOf [], ⟨0, 10, 13, 13⟩, "java/lang/IllegalArgumentException", _, rfl, ?_, by decide +kernel, by decide, List.mem_of_getElem? (i := 511) (by decide +kernel), List.mem_of_getElem? (i := 521) (by decide +kernel), rfl, Or.inr ⟨4, by decide +kernel, by decide, rfl⟩⟩
    intro z hz
    cases hz
  have hb : ∀ k : Nat, E ≠ k → (E == k) = false := fun k h => by simp [h]
  simp [List.lookup, hb _ h0] at hl
theorem hok_281_3 : pm_hok pm_nc9 281 3 false [(1, 8)] := by
  refine ⟨fun h => (by cases h), fun E h hl => ?_⟩
  have hE : E < 5 ∨ ¬ E < 5 := Nat.lt_or_ge E 5 |>.imp id Nat.not_lt.mpr
  by_cases h0 : E = 1
  · subst h0
    cases hl
    refine ⟨tableOf [], tableOf [], ⟨0, 8, 11, 19⟩, "java/lang/IllegalStateException", _, rfl, ?_, by decide +kernel, by decide, List.mem_of_getElem? (i := 629) (by decide +kernel), List.mem_of_getElem? (i := 644) (by decide +kernel), rfl, Or.inl ⟨2, by decide +kernel, by decide, rfl⟩⟩
    intro z hz
    cases hz
  have hb : ∀ k : Nat, E ≠ k → (E == k) = false := fun k h => by simp [h]
  simp [List.lookup, hb _ h0] at hl
def pm_hl : List (Nat × Nat × Bool × List (Nat × Nat)) := [(249, 7, false, [(0, 14)]), (250, 11, false, [(0, 13), (1, 16)]), (251, 9, false, [(0, 12), (2, 15)]), (252, 9, false, [(0, 12), (2, 15), (1, 18)]), (253, 5, false, [(0, 10), (2, 13)]), (254, 4, false, [(0, 9)]), (255, 4, false, [(0, 9)]), (256, 7, false, [(0, 11), (2, 14)]), (257, 9, false, [(0, 12), (2, 15)]), (258, 7, false, [(0, 11), (2, 14)]), (259, 9, false, [(0, 12), (2, 15)]), (260, 4, false, [(1, 9)]), (261, 4, false, [(0, 9), (1, 12)]), (262, 4, false, [(0, 9), (1, 12)]), (263, 4, false, [(2, 9)]), (264, 4, false, [(0, 8)]), (265, 5, false, [(0, 10), (3, 13)]), (266, 4, false, [(2, 9)]), (267, 3, false, [(1, 8)]), (268, 5, false, [(0, 9)]), (269, 5, false, [(0, 9)]), (270, 4, false, [(0, 9), (3, 12)]), (271, 4, false, [(0, 9)]), (272, 4, false, [(0, 12)]), (273, 4, false, [(0, 12)]), (274, 5, false, [(0, 13), (1, 16)]), (275, 5, false, [(0, 13)]), (276, 7, false, [(0, 11), (4, 14)]), (277, 5, false, [(0, 10), (1, 13)]), (278, 7, false, [(0, 11)]), (279, 4, false, [(0, 9)]), (280, 5, false, [(0, 10)]), (281, 3, false, [(1, 8)])]
set_option maxRecDepth 100000 in
theorem pm_hl_ok : ∀ q ∈ pm_hl, pm_hok pm_nc9 q.1 q.2.1 q.2.2.1 q.2.2.2 := by
  unfold pm_hl
  exact List.forall_mem_cons.mpr ⟨hok_249_7, List.forall_mem_cons.mpr ⟨hok_250_11, List.forall_mem_cons.mpr ⟨hok_251_9, List.forall_mem_cons.mpr ⟨hok_252_9, List.forall_mem_cons.mpr ⟨hok_253_5, List.forall_mem_cons.mpr ⟨hok_254_4, List.forall_mem_cons.mpr ⟨hok_255_4, List.forall_mem_cons.mpr ⟨hok_256_7, List.forall_mem_cons.mpr ⟨hok_257_9, List.forall_mem_cons.mpr ⟨hok_258_7, List.forall_mem_cons.mpr ⟨hok_259_9, List.forall_mem_cons.mpr ⟨hok_260_4, List.forall_mem_cons.mpr ⟨hok_261_4, List.forall_mem_cons.mpr ⟨hok_262_4, List.forall_mem_cons.mpr ⟨hok_263_4, List.forall_mem_cons.mpr ⟨hok_264_4, List.forall_mem_cons.mpr ⟨hok_265_5, List.forall_mem_cons.mpr ⟨hok_266_4, List.forall_mem_cons.mpr ⟨hok_267_3, List.forall_mem_cons.mpr ⟨hok_268_5, List.forall_mem_cons.mpr ⟨hok_269_5, List.forall_mem_cons.mpr ⟨hok_270_4, List.forall_mem_cons.mpr ⟨hok_271_4, List.forall_mem_cons.mpr ⟨hok_272_4, List.forall_mem_cons.mpr ⟨hok_273_4, List.forall_mem_cons.mpr ⟨hok_274_5, List.forall_mem_cons.mpr ⟨hok_275_5, List.forall_mem_cons.mpr ⟨hok_276_7, List.forall_mem_cons.mpr ⟨hok_277_5, List.forall_mem_cons.mpr ⟨hok_278_7, List.forall_mem_cons.mpr ⟨hok_279_4, List.forall_mem_cons.mpr ⟨hok_280_5, List.forall_mem_cons.mpr ⟨hok_281_3, fun _ h => absurd h List.not_mem_nil⟩⟩⟩⟩⟩⟩⟩⟩⟩⟩⟩⟩⟩⟩⟩⟩⟩⟩⟩⟩⟩⟩⟩⟩⟩⟩⟩⟩⟩⟩⟩⟩⟩
