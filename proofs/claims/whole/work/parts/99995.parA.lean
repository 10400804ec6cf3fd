/-! ===== parse: what a text says ===== -/
def dg (l : List Nat) (i : Nat) : Bool := match l[i]? with
  | some c => decide (48 ≤ c ∧ c ≤ 57)
  | none => false
def dgv (l : List Nat) (i : Nat) : Nat := match l[i]? with
  | some c => c - 48
  | none => 0
def isC (l : List Nat) (i c : Nat) : Bool := decide (l[i]? = some c)
theorem dg_at {l : List Nat} {i : Nat} (h : dg l i = true) : ∃ c, l[i]? = some c ∧ 48 ≤ c ∧ c ≤ 57 ∧ dgv l i = c - 48 := by
  unfold dg at h
  cases e : l[i]? with
  | none => rw [e] at h; cases h
  | some c =>
    rw [e] at h
    have := of_decide_eq_true h
    exact ⟨c, rfl, this.1, this.2, by unfold dgv; rw [e]⟩
theorem dg_lt {l : List Nat} {i : Nat} (h : dg l i = true) : i < l.length := by
  obtain ⟨c, h1, _⟩ := dg_at h
  exact (List.getElem?_eq_some_iff.mp h1).1
theorem isC_lt {l : List Nat} {i c : Nat} (h : isC l i c = true) : i < l.length :=
  (List.getElem?_eq_some_iff.mp (of_decide_eq_true h)).1
abbrev Rd (α : Type) : Type := Nat ⊕ (α × Nat)
def rNum (l : List Nat) (i : Nat) : Rd Nat := if dg l i then (if dg l (i + 1) then .inr (10 * dgv l i + dgv l (i + 1), i + 2) else .inr (dgv l i, i + 1)) else .inl i
theorem rNum_le {l : List Nat} {i v j : Nat} (h : rNum l i = .inr (v, j)) : v < 100 ∧ i < j ∧ j ≤ l.length := by
  unfold rNum at h
  split at h
  · rename_i h1
    obtain ⟨c, e1, e2, e3, e4⟩ := dg_at h1
    have l1 := dg_lt h1
    split at h
    · rename_i h2
      obtain ⟨c', f1, f2, f3, f4⟩ := dg_at h2
      have l2 := dg_lt h2
      cases h
      omega
    · cases h
      omega
  · cases h
def rRange (l : List Nat) (i : Nat) : Rd (Nat × Nat) := match rNum l i with
  | .inl p => .inl p
  | .inr (lo, j) => if isC l j 45 then (match rNum l (j + 1) with
    | .inl p => .inl p
    | .inr (hi, k) => .inr ((lo, hi), k)) else .inr ((lo, lo), j)
theorem rRange_le {l : List Nat} {i j : Nat} {x : Nat × Nat} (h : rRange l i = .inr (x, j)) : (x.1 < 100 ∧ x.2 < 100) ∧ i < j ∧ j ≤ l.length := by
  unfold rRange at h
  cases e : rNum l i with
  | inl p => rw [e] at h; cases h
  | inr a =>
    obtain ⟨lo, k⟩ := a
    rw [e] at h
    dsimp only at h
    have h1 := rNum_le e
    split at h
    · cases e2 : rNum l (k + 1) with
      | inl p => rw [e2] at h; cases h
      | inr b =>
        obtain ⟨hi, k'⟩ := b
        rw [e2] at h
        have h2 := rNum_le e2
        cases h
        exact ⟨⟨h1.1, h2.1⟩, by omega⟩
    · cases h
      exact ⟨⟨h1.1, h1.1⟩, h1.2⟩
def rList {α : Type} (item : Nat → Rd α) (l : List Nat) : Nat → Nat → Rd (List α)
  | 0, i => .inr ([], i)
  | f + 1, i => match item i with
    | .inl p => .inl p
    | .inr (a, j) => if isC l j 44 then (match rList item l f (j + 1) with
      | .inl p => .inl p
      | .inr (as, k) => .inr (a :: as, k)) else .inr ([a], j)
theorem rList_le {α : Type} {item : Nat → Rd α} {l : List Nat} {P : α → Prop} (h : ∀ i a j, item i = .inr (a, j) → P a ∧ i < j ∧ j ≤ l.length) : ∀ (f i : Nat) (as : List α) (j : Nat), rList item l f i = .inr (as, j) → i ≤ l.length → (∀ a, a ∈ as → P a) ∧ i ≤ j ∧ (0 < f → i < j) ∧ j ≤ l.length := by
  intro f
  induction f with
  | zero =>
    intro i as j e hl
    cases e
    exact ⟨fun a ha => (by cases ha), Nat.le_refl _, fun q => absurd q (Nat.lt_irrefl _), hl⟩
  | succ f ih =>
    intro i as j e hl
    replace e : (match item i with
    | .inl p => .inl p
    | .inr (a, j) => if isC l j 44 then (match rList item l f (j + 1) with
      | .inl p => .inl p
      | .inr (as, k) => .inr (a :: as, k)) else .inr ([a], j) : Rd (List α)) = .inr (as, j) := e
    cases e1 : item i with
    | inl p => rw [e1] at e; cases e
    | inr a =>
      obtain ⟨a, k⟩ := a
      rw [e1] at e
      dsimp only at e
      have h1 := h i a k e1
      split at e
      · rename_i hc
        have lc := isC_lt hc
        cases e2 : rList item l f (k + 1) with
        | inl p => rw [e2] at e; cases e
        | inr b =>
          obtain ⟨as', k'⟩ := b
          rw [e2] at e
          have h2 := ih _ _ _ e2 (by omega)
          cases e
          refine ⟨fun x hx => ?_, by omega, fun _ => by omega, h2.2.2.2⟩
          rcases List.mem_cons.mp hx with q | q
          · rw [q]; exact h1.1
          · exact h2.1 x q
      · cases e
        refine ⟨fun x hx => ?_, by omega, fun _ => h1.2.1, h1.2.2⟩
        rw [List.mem_singleton.mp hx]; exact h1.1
def rTerm (l : List Nat) (i : Nat) : Rd Nat := if isC l i 120 then
    (if isC l (i + 1) 43 then (match rNum l (i + 2) with
      | .inl p => .inl p
      | .inr (v, j) => .inr (1000 + v, j))
    else if isC l (i + 1) 45 then (match rNum l (i + 2) with
      | .inl p => .inl p
      | .inr (v, j) => .inr (1000 - v, j))
    else .inr (1000, i + 1))
  else rNum l i
theorem rTerm_le {l : List Nat} {i t j : Nat} (h : rTerm l i = .inr (t, j)) : okT t ∧ i < j ∧ j ≤ l.length := by
  unfold rTerm at h
  unfold okT
  split at h
  · rename_i hx
    have lx := isC_lt hx
    split at h
    · cases e : rNum l (i + 2) with
      | inl p => rw [e] at h; cases h
      | inr b =>
        obtain ⟨v, k⟩ := b
        rw [e] at h
        have := rNum_le e
        cases h
        omega
    · split at h
      · cases e : rNum l (i + 2) with
        | inl p => rw [e] at h; cases h
        | inr b =>
          obtain ⟨v, k⟩ := b
          rw [e] at h
          have := rNum_le e
          cases h
          omega
      · cases h; omega
  · have := rNum_le h
    omega
def rTerms (l : List Nat) (i : Nat) : Rd (List Nat) := if isC l i 120 || dg l i then rList (rTerm l) l 120 i else .inr ([], i)
theorem rTerms_le {l : List Nat} {i j : Nat} {ts : List Nat} (h : rTerms l i = .inr (ts, j)) (hi : i ≤ l.length) : (∀ t, t ∈ ts → okT t) ∧ i ≤ j ∧ j ≤ l.length := by
  unfold rTerms at h
  split at h
  · have := rList_le (P := okT) (fun i a j => rTerm_le) _ _ _ _ h hi
    exact ⟨this.1, this.2.1, this.2.2.2⟩
  · cases h
    exact ⟨fun t ht => (by cases ht), Nat.le_refl _, hi⟩
abbrev It : Type := Nat ⊕ (Nat × Nat × List (Nat × Nat) × List Nat)
def rRule (l : List Nat) (i : Nat) : Rd It := match rNum l i with
  | .inl p => .inl p
  | .inr (f, i1) => if isC l i1 62 then (match rNum l (i1 + 1) with
    | .inl p => .inl p
    | .inr (t, i2) => if isC l i2 58 then (match rList (rRange l) l 120 (i2 + 1) with
      | .inl p => .inl p
      | .inr (rg, i3) => if isC l i3 47 then (match rTerms l (i3 + 1) with
        | .inl p => .inl p
        | .inr (ts, i4) => .inr (.inr (f, t, rg, ts), i4)) else .inl i3) else .inl i2) else .inl i1
def rFin (l : List Nat) (i : Nat) : Rd It := match rNum l i with
  | .inl p => .inl p
  | .inr (v, j) => .inr (.inl v, j)
def rItem (l : List Nat) (i : Nat) : Rd It := if isC l i 33 then rFin l (i + 1) else rRule l i
def rItems (l : List Nat) : Nat → Nat → Nat ⊕ List It
  | 0, i => .inl i
  | f + 1, i => match rItem l i with
    | .inl p => .inl p
    | .inr (a, j) => if l.length ≤ j then .inr [a] else if isC l j 59 then (match rItems l f (j + 1) with
      | .inl p => .inl p
      | .inr as => .inr (a :: as)) else .inl j
def isRul : It → Bool
  | .inl _ => false
  | .inr _ => true
def okI : It → Prop
  | .inl v => v < 100
  | .inr (f, t, rg, ts) => (f < 100 ∧ t < 100) ∧ (∀ x, x ∈ rg → x.1 < 100 ∧ x.2 < 100) ∧ ∀ t, t ∈ ts → okT t
theorem rRule_le {l : List Nat} {i j : Nat} {a : It} (h : rRule l i = .inr (a, j)) : okI a ∧ i + 6 ≤ j ∧ j ≤ l.length := by
  unfold rRule at h
  cases e1 : rNum l i with
  | inl p => rw [e1] at h; cases h
  | inr x =>
    obtain ⟨f, i1⟩ := x
    rw [e1] at h
    dsimp only at h
    have h1 := rNum_le e1
    split at h
    · cases e2 : rNum l (i1 + 1) with
      | inl p => rw [e2] at h; cases h
      | inr x =>
        obtain ⟨t, i2⟩ := x
        rw [e2] at h
        dsimp only at h
        have h2 := rNum_le e2
        split at h
        · rename_i hc
          have lc := isC_lt hc
          cases e3 : rList (rRange l) l 120 (i2 + 1) with
          | inl p => rw [e3] at h; cases h
          | inr x =>
            obtain ⟨rg, i3⟩ := x
            rw [e3] at h
            dsimp only at h
            have h3 := rList_le (P := fun x : Nat × Nat => x.1 < 100 ∧ x.2 < 100) (fun i a j => rRange_le) _ _ _ _ e3 (by omega)
            split at h
            · rename_i hc3
              have lc3 := isC_lt hc3
              cases e4 : rTerms l (i3 + 1) with
              | inl p => rw [e4] at h; cases h
              | inr x =>
                obtain ⟨ts, i4⟩ := x
                rw [e4] at h
                have h4 := rTerms_le e4 (by omega)
                cases h
                have h35 := h3.2.2.1 (by decide)
                exact ⟨⟨⟨h1.1, h2.1⟩, h3.1, h4.1⟩, by omega, h4.2.2⟩
            · cases h
        · cases h
    · cases h
theorem rItem_le {l : List Nat} {i j : Nat} {a : It} (h : rItem l i = .inr (a, j)) : okI a ∧ (isRul a = true → i + 6 ≤ j) ∧ i + 1 < j + 1 ∧ j ≤ l.length := by
  unfold rItem at h
  split at h
  · unfold rFin at h
    cases e : rNum l (i + 1) with
    | inl p => rw [e] at h; cases h
    | inr x =>
      obtain ⟨v, k⟩ := x
      rw [e] at h
      have h1 := rNum_le e
      cases h
      exact ⟨h1.1, fun q => (by cases q), by omega, h1.2.2⟩
  · have h1 := rRule_le h
    exact ⟨h1.1, fun _ => h1.2.1, by omega, h1.2.2⟩
/-- the rule that a text says; what is wrong with an item -/
def gR (rg : List (Nat × Nat)) (s : Nat) : Bool := rg.any (fun x => decide (x.1 ≤ s ∧ s ≤ x.2))
def ruI (f t : Nat) (rg : List (Nat × Nat)) (ts : List Nat) : Rl := (f, t, (mk (gR rg)).1, (mk (gR rg)).2, ts.take 6)
def badR (rg : List (Nat × Nat)) (ts : List Nat) : Bool := rg.any (fun x => decide (x.2 < x.1)) || decide (6 < ts.length)
def badI : It → Bool
  | .inl v => decide (12 ≤ v)
  | .inr (f, t, rg, ts) => badR rg ts || (decide (12 ≤ f) || decide (12 ≤ t))
def clsI (T : Tr) : It → Tr
  | .inl v => if v < 12 then (T.1 ||| 2 ^ v, T.2) else T
  | .inr (f, t, rg, ts) => if f < 12 ∧ t < 12 then (T.1, T.2 ++ [ruI f t rg ts]) else T
def z12 (v : Nat) : Nat := if v < 12 then v else 0
def modI (T : Tr) : It → Tr
  | .inl v => (T.1 ||| 2 ^ z12 v, T.2)
  | .inr (f, t, rg, ts) => (T.1, T.2 ++ [ruI (z12 f) (z12 t) rg ts])
theorem clsI_mod {T : Tr} {a : It} (h : badI a = false) : clsI T a = modI T a := by
  cases a with
  | inl v =>
    have : ¬ 12 ≤ v := of_decide_eq_false h
    show (if v < 12 then (T.1 ||| 2 ^ v, T.2) else T) = (T.1 ||| 2 ^ (if v < 12 then v else 0), T.2)
    rw [if_pos (by omega), if_pos (by omega)]
  | inr x =>
    obtain ⟨f, t, rg, ts⟩ := x
    replace h : (badR rg ts || (decide (12 ≤ f) || decide (12 ≤ t))) = false := h
    rw [Bool.or_eq_false_iff, Bool.or_eq_false_iff] at h
    have h1 := of_decide_eq_false h.2.1
    have h2 := of_decide_eq_false h.2.2
    show (if f < 12 ∧ t < 12 then (T.1, T.2 ++ [ruI f t rg ts]) else T) = (T.1, T.2 ++ [ruI (if f < 12 then f else 0) (if t < 12 then t else 0) rg ts])
    rw [if_pos ⟨by omega, by omega⟩, if_pos (by omega), if_pos (by omega)]
theorem okR_ruI {f t : Nat} {rg : List (Nat × Nat)} {ts : List Nat} (hf : f < 12) (ht : t < 12) (h : ∀ t, t ∈ ts → okT t) : okR (ruI f t rg ts) :=
  ⟨hf, ht, mk_g _, by show (ts.take 6).length ≤ 6; rw [List.length_take]; omega, fun u hu => h u (List.mem_of_mem_take hu)⟩
