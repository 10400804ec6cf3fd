/-! ===== sets of states that grow come to rest ===== -/
def sub (S S' : Nat) : Prop := ∀ q, S.testBit q = true → S'.testBit q = true
theorem sub.rf {S : Nat} : sub S S := fun _ h => h
theorem sub.tr {a b c : Nat} (h : sub a b) (g : sub b c) : sub a c := fun q z => g q (h q z)
theorem sub_or {a b : Nat} : sub a (a ||| b) := fun q h => by rw [Nat.testBit_or, h]; rfl
theorem bit_12 {S q : Nat} (hS : S < 4096) (h : S.testBit q = true) : q < 12 := by
  apply Classical.byContradiction
  intro hq
  have : S.testBit q = false := Nat.testBit_lt_two_pow (Nat.lt_of_lt_of_le hS (show 2 ^ 12 ≤ 2 ^ q from Nat.pow_le_pow_right (by decide) (by omega)))
  rw [this] at h; cases h
theorem set_ext {S S' : Nat} (hS : S < 4096) (hS' : S' < 4096) (h : ∀ q, q < 12 → S.testBit q = S'.testBit q) : S = S' := by
  apply Nat.eq_of_testBit_eq
  intro q
  by_cases hq : q < 12
  · exact h q hq
  · have a : S.testBit q = false := by cases e : S.testBit q with
      | false => rfl
      | true => exact absurd (bit_12 hS e) hq
    have b : S'.testBit q = false := by cases e : S'.testBit q with
      | false => rfl
      | true => exact absurd (bit_12 hS' e) hq
    rw [a, b]
theorem cnt_sub {p p' : Nat → Bool} {n : Nat} (h : ∀ q, q < n → p q = true → p' q = true) : cnt p n ≤ cnt p' n ∧ (cnt p n = cnt p' n → ∀ q, q < n → p q = p' q) := by
  induction n with
  | zero => exact ⟨Nat.le_refl _, fun _ q hq => absurd hq (Nat.not_lt_zero _)⟩
  | succ n ih =>
    obtain ⟨i1, i2⟩ := ih (fun q hq => h q (by omega))
    have hn := h n (by omega)
    rw [cnt_s, cnt_s]
    cases e : p n with
    | false =>
      cases e' : p' n with
      | false =>
        refine ⟨by simp; exact i1, fun z q hq => ?_⟩
        simp at z
        by_cases eq : q = n
        · rw [eq, e, e']
        · exact i2 z q (by omega)
      | true => exact ⟨by simp; omega, fun z => by simp at z; omega⟩
    | true =>
      have e' := hn e
      rw [e']
      refine ⟨by simp; exact i1, fun z q hq => ?_⟩
      simp at z
      by_cases eq : q = n
      · rw [eq, e, e']
      · exact i2 z q (by omega)
def itF (f : Nat → Nat) (S : Nat) : Nat → Nat
  | 0 => S
  | n + 1 => f (itF f S n)
/-- eleven rounds are enough for twelve states -/
theorem rest_11 {f : Nat → Nat} {S : Nat} (hS : S < 4096) (h0 : f S = S ∨ ∃ q, q < 12 ∧ S.testBit q = true) (hf : ∀ X, X < 4096 → f X < 4096) (hs : ∀ X, X < 4096 → sub X (f X)) : itF f S 12 = itF f S 11 := by
  have lt : ∀ n, itF f S n < 4096 := fun n => by
    induction n with
    | zero => exact hS
    | succ n ih => exact hf _ ih
  have key : ∀ n, itF f S (n + 1) = itF f S n ∨ n + 1 + cnt (S.testBit ·) 12 ≤ cnt ((itF f S (n + 1)).testBit ·) 12 := by
    intro n
    induction n with
    | zero =>
      obtain ⟨c1, c2⟩ := cnt_sub (p := (S.testBit ·)) (p' := ((f S).testBit ·)) (n := 12) (fun q _ h => hs S hS q h)
      by_cases e : cnt (S.testBit ·) 12 = cnt ((f S).testBit ·) 12
      · exact Or.inl (set_ext (hf _ hS) hS (fun q hq => (c2 e q hq).symm))
      · right
        show 0 + 1 + cnt (S.testBit ·) 12 ≤ cnt ((f S).testBit ·) 12
        omega
    | succ n ih =>
      rcases ih with ih | ih
      · left
        show f (itF f S (n + 1)) = itF f S (n + 1)
        conv => lhs; rw [ih]
        rfl
      · obtain ⟨c1, c2⟩ := cnt_sub (p := ((itF f S (n + 1)).testBit ·)) (p' := ((f (itF f S (n + 1))).testBit ·)) (n := 12) (fun q _ h => hs _ (lt (n + 1)) q h)
        by_cases e : cnt ((itF f S (n + 1)).testBit ·) 12 = cnt ((f (itF f S (n + 1))).testBit ·) 12
        · exact Or.inl (set_ext (hf _ (lt (n + 1))) (lt (n + 1)) (fun q hq => (c2 e q hq).symm))
        · right
          show n + 1 + 1 + cnt (S.testBit ·) 12 ≤ cnt ((f (itF f S (n + 1))).testBit ·) 12
          omega
  rcases h0 with h0 | h0
  · have st : ∀ n, itF f S n = S := fun n => by
      induction n with
      | zero => rfl
      | succ n ih => show f (itF f S n) = S; rw [ih, h0]
    rw [st, st]
  · obtain ⟨q0, hq0, hb0⟩ := h0
    rcases key 11 with q | q
    · exact q
    · have c1 := cnt_le ((itF f S (11 + 1)).testBit ·) 12
      have c2 := cnt_lt (S.testBit ·) hq0 hb0
      omega
theorem stR_sub (S : Nat) (r : Rl) : sub S (stR S r) := by
  unfold stR
  split
  · exact sub_or
  · exact sub.rf
theorem foldR_sub (rs : List Rl) : ∀ S, sub S (rs.foldl stR S) := by
  induction rs with
  | nil => exact fun S => sub.rf
  | cons r rs ih => exact fun S => (stR_sub S r).tr (ih _)
theorem itR_F (rs : List Rl) (n : Nat) : itR rs n = itF (fun S => rs.foldl stR S) 1 n := by
  induction n with
  | zero => rfl
  | succ n ih => show rs.foldl stR (itR rs n) = _; rw [ih]; rfl
theorem itR_rest {rs : List Rl} (hr : ∀ r, r ∈ rs → okR r) : itR rs 12 = itR rs 11 := by
  rw [itR_F, itR_F]
  exact rest_11 (by decide) (Or.inr ⟨0, by decide, by decide⟩) (fun X h => foldR_lt hr X h) (fun X _ => foldR_sub rs X)
theorem stW_sub (S X : Nat) (r : Rl) : sub X (stW S X r) := by
  unfold stW
  split
  · exact sub_or
  · exact sub.rf
theorem foldW_sub (S : Nat) (rs : List Rl) : ∀ X, sub X (rs.foldl (stW S) X) := by
  induction rs with
  | nil => exact fun X => sub.rf
  | cons r rs ih => exact fun X => (stW_sub S X r).tr (ih _)
theorem foldW_has {S : Nat} {rs : List Rl} {r : Rl} (hr : r ∈ rs) (h1 : S.testBit (rT r) = true) (h2 : ever r = true) : ∀ X, (rs.foldl (stW S) X).testBit (rF r) = true := by
  induction rs with
  | nil => cases hr
  | cons a rs ih =>
    intro X
    rcases List.mem_cons.mp hr with rfl | hr
    · refine foldW_sub S rs _ _ ?_
      unfold stW
      rw [h1, h2]
      simp [Nat.testBit_or]
    · exact ih hr _
theorem foldW_in {S : Nat} {rs : List Rl} {C : Nat → Prop} (hS : ∀ q, S.testBit q = true → C q) (hC : ∀ r, r ∈ rs → ever r = true → C (rT r) → C (rF r)) : ∀ X, (∀ q, X.testBit q = true → C q) → ∀ q, (rs.foldl (stW S) X).testBit q = true → C q := by
  induction rs with
  | nil => exact fun X h => h
  | cons a rs ih =>
    intro X h
    refine ih (fun r hr => hC r (List.mem_cons_of_mem _ hr)) _ (fun q hq => ?_)
    unfold stW at hq
    split at hq
    · rename_i e
      rw [Bool.and_eq_true] at e
      rw [Nat.testBit_or, Nat.testBit_two_pow, Bool.or_eq_true] at hq
      rcases hq with hq | hq
      · exact h q hq
      · rw [← of_decide_eq_true hq]; exact hC a List.mem_cons_self e.2 (hS _ e.1)
    · exact h q hq
