/-! ===== from where a final state is reached: both ways of counting ===== -/
/-- what lies in every closed set that holds the final states -/
def endS (rs : List Rl) (F q : Nat) : Prop := ∀ C : Nat → Prop, (∀ q, F.testBit q = true → C q) → (∀ r, r ∈ rs → ever r = true → C (rT r) → C (rF r)) → C q
theorem itW_F (rs : List Rl) (F n : Nat) : itW rs F n = itF (wsrc rs) F n := by
  induction n with
  | zero => rfl
  | succ n ih => show wsrc rs (itW rs F n) = _; rw [ih]; rfl
theorem ex_bit {S : Nat} (hS : S < 4096) : S = 0 ∨ ∃ q, q < 12 ∧ S.testBit q = true := by
  by_cases h : S = 0
  · exact Or.inl h
  · obtain ⟨q, hq⟩ := Nat.exists_testBit_of_ne_zero h
    exact Or.inr ⟨q, bit_12 hS hq, hq⟩
theorem foldW_0 (rs : List Rl) : rs.foldl (stW 0) 0 = 0 := by
  induction rs with
  | nil => rfl
  | cons r rs ih =>
    rw [List.foldl_cons]
    have : stW 0 0 r = 0 := by unfold stW; simp
    rw [this]; exact ih
theorem itW_end {rs : List Rl} {F : Nat} (hr : ∀ r, r ∈ rs → okR r) (hF : F < 4096) (q : Nat) : (itW rs F 11).testBit q = true ↔ endS rs F q := by
  have rest : wsrc rs (itW rs F 11) = itW rs F 11 := by
    have := rest_11 (f := wsrc rs) hF (by
      rcases ex_bit hF with h | h
      · subst h; exact Or.inl (foldW_0 rs)
      · exact Or.inr h) (fun X h => foldW_lt hr X h) (fun X _ => foldW_sub X rs X)
    rw [← itW_F, ← itW_F] at this
    exact this
  constructor
  · intro h C h1 h2
    have key : ∀ n q, (itW rs F n).testBit q = true → C q := by
      intro n
      induction n with
      | zero => exact h1
      | succ n ih => exact foldW_in ih h2 _ ih
    exact key 11 q h
  · intro h
    refine h (fun q => (itW rs F 11).testBit q = true) (fun q hq => ?_) (fun r hr' he ht => ?_)
    · have key : ∀ n, sub F (itW rs F n) := fun n => by
        induction n with
        | zero => exact sub.rf
        | succ n ih => exact ih.tr (foldW_sub _ rs _)
      exact key 11 q hq
    · rw [← rest]
      exact foldW_has hr' ht he _
