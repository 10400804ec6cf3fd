/-! ===== the model's way: in place, twelve rounds ===== -/
def stE (S : Nat) (r : Rl) : Nat := if S.testBit (rT r) && ever r then S ||| 2 ^ (rF r) else S
def itE (rs : List Rl) (F n : Nat) : Nat := itF (fun S => rs.foldl stE S) F n
theorem stE_sub (S : Nat) (r : Rl) : sub S (stE S r) := by
  unfold stE
  split
  · exact sub_or
  · exact sub.rf
theorem foldE_sub (rs : List Rl) : ∀ S, sub S (rs.foldl stE S) := by
  induction rs with
  | nil => exact fun S => sub.rf
  | cons r rs ih => exact fun S => (stE_sub S r).tr (ih _)
theorem stE_lt {S : Nat} {r : Rl} (hS : S < 4096) (hr : okR r) : stE S r < 4096 := by
  unfold stE
  split
  · exact or_lt hS (two_lt hr.1)
  · exact hS
theorem foldE_lt {rs : List Rl} (hr : ∀ r, r ∈ rs → okR r) : ∀ S, S < 4096 → rs.foldl stE S < 4096 := by
  induction rs with
  | nil => exact fun S h => h
  | cons r rs ih => exact fun S h => ih (fun x hx => hr x (List.mem_cons_of_mem _ hx)) _ (stE_lt h (hr r List.mem_cons_self))
theorem foldE_has {rs : List Rl} {r : Rl} (hr : r ∈ rs) (h2 : ever r = true) : ∀ X, X.testBit (rT r) = true → (rs.foldl stE X).testBit (rF r) = true := by
  induction rs with
  | nil => cases hr
  | cons a rs ih =>
    intro X h1
    rcases List.mem_cons.mp hr with rfl | hr
    · refine foldE_sub rs _ _ ?_
      unfold stE
      rw [h1, h2]
      simp [Nat.testBit_or]
    · exact ih hr _ (stE_sub X a _ h1)
theorem foldE_in {rs : List Rl} {C : Nat → Prop} (hC : ∀ r, r ∈ rs → ever r = true → C (rT r) → C (rF r)) : ∀ X, (∀ q, X.testBit q = true → C q) → ∀ q, (rs.foldl stE X).testBit q = true → C q := by
  induction rs with
  | nil => exact fun X h => h
  | cons a rs ih =>
    intro X h
    refine ih (fun r hr => hC r (List.mem_cons_of_mem _ hr)) _ (fun q hq => ?_)
    unfold stE at hq
    split at hq
    · rename_i e
      rw [Bool.and_eq_true] at e
      rw [Nat.testBit_or, Nat.testBit_two_pow, Bool.or_eq_true] at hq
      rcases hq with hq | hq
      · exact h q hq
      · rw [← of_decide_eq_true hq]; exact hC a List.mem_cons_self e.2 (h _ e.1)
    · exact h q hq
theorem foldE_0 (rs : List Rl) : rs.foldl stE 0 = 0 := by
  induction rs with
  | nil => rfl
  | cons r rs ih =>
    rw [List.foldl_cons]
    have : stE 0 r = 0 := by unfold stE; simp
    rw [this]; exact ih
theorem itE_lt {rs : List Rl} {F : Nat} (hr : ∀ r, r ∈ rs → okR r) (hF : F < 4096) (n : Nat) : itE rs F n < 4096 := by
  unfold itE
  induction n with
  | zero => exact hF
  | succ n ih => exact foldE_lt hr _ ih
theorem itE_end {rs : List Rl} {F : Nat} (hr : ∀ r, r ∈ rs → okR r) (hF : F < 4096) (q : Nat) : (itE rs F 12).testBit q = true ↔ endS rs F q := by
  have r11 : itE rs F 12 = itE rs F 11 := rest_11 hF (by
      rcases ex_bit hF with h | h
      · subst h; exact Or.inl (foldE_0 rs)
      · exact Or.inr h) (fun X h => foldE_lt hr X h) (fun X _ => foldE_sub rs X)
  have rest : rs.foldl stE (itE rs F 12) = itE rs F 12 := by
    conv => lhs; rw [r11]
    rfl
  constructor
  · intro h C h1 h2
    have key : ∀ n q, (itE rs F n).testBit q = true → C q := by
      intro n
      induction n with
      | zero => exact h1
      | succ n ih => exact foldE_in h2 _ ih
    exact key 12 q h
  · intro h
    refine h (fun q => (itE rs F 12).testBit q = true) (fun q hq => ?_) (fun r hr' he ht => ?_)
    · have key : ∀ n, sub F (itE rs F n) := fun n => by
        induction n with
        | zero => exact sub.rf
        | succ n ih => exact ih.tr (foldE_sub rs _)
      exact key 12 q hq
    · rw [← rest]
      exact foldE_has hr' he _ ht
theorem itE_W {rs : List Rl} {F : Nat} (hr : ∀ r, r ∈ rs → okR r) (hF : F < 4096) : itE rs F 12 = itW rs F 11 :=
  set_ext (itE_lt hr hF 12) (itW_lt hr hF 11) (fun q _ => by rw [Bool.eq_iff_iff, itE_end hr hF, itW_end hr hF])
