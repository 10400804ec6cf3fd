/-! ===== compose: what is built ===== -/
/-- a rule takes what a term gives for a symbol -/
def tk (c : Nat) (t : Rl) (s : Nat) : Bool := decide (0 ≤ val c s ∧ val c s < 100) && en t (val c s).toNat
/-- from a state, some rules take these terms -/
def opn (bs : List Rl) (e : Nat → Bool) : List Nat → Nat → Nat → Bool
  | [], _, s => e s
  | c :: cs, q, s => bs.any (fun t => decide (rF t = q) && (tk c t s && opn bs e cs (rT t) s))
theorem opn_e {bs : List Rl} {e : Nat → Bool} {s : Nat} : ∀ (cs : List Nat) (q : Nat), opn bs e cs q s = true → e s = true := by
  intro cs
  induction cs with
  | nil => intro q h; exact h
  | cons c cs ih =>
    intro q h
    replace h : bs.any (fun t => decide (rF t = q) && (tk c t s && opn bs e cs (rT t) s)) = true := h
    obtain ⟨t, _, ht⟩ := List.any_eq_true.mp h
    rw [Bool.and_eq_true, Bool.and_eq_true] at ht
    exact ih _ ht.2.2
def fnd (p : Nat) : List Nat → Nat
  | [] => 0
  | q :: qs => if q = p then 0 else fnd p qs + 1
theorem fnd_le (p : Nat) : ∀ l, fnd p l ≤ l.length := by
  intro l
  induction l with
  | nil => exact Nat.le_refl _
  | cons q qs ih =>
    show (if q = p then 0 else fnd p qs + 1) ≤ qs.length + 1
    split <;> omega
theorem fnd_lt {p : Nat} : ∀ (l : List Nat) (j q : Nat), j < fnd p l → l[j]? = some q → q ≠ p := by
  intro l
  induction l with
  | nil => intro j q h; exact absurd h (Nat.not_lt_zero _)
  | cons a l ih =>
    intro j q h hq
    replace h : j < (if a = p then 0 else fnd p l + 1) := h
    by_cases c : a = p
    · rw [if_pos c] at h; omega
    · rw [if_neg c] at h
      cases j with
      | zero => cases hq; exact c
      | succ j => exact ih j q (by omega) hq
theorem fnd_eq {p : Nat} : ∀ (l : List Nat), fnd p l < l.length → l[fnd p l]? = some p := by
  intro l
  induction l with
  | nil => intro h; exact absurd h (Nat.not_lt_zero _)
  | cons a l ih =>
    intro h
    replace h : (if a = p then 0 else fnd p l + 1) < l.length + 1 := h
    show (a :: l)[(if a = p then 0 else fnd p l + 1)]? = some p
    by_cases c : a = p
    · rw [if_pos c, c]; rfl
    · rw [if_neg c] at h ⊢
      exact ih (by omega)
def addP (p : Nat) (ps : List Nat) : List Nat := if fnd p ps < ps.length then ps else if ps.length < 12 then ps ++ [p] else ps
/-- terms one after the other -/
def outT2 (c t : Nat) : Nat := if t < 100 then t else c + t - 1000
def jT : List (Nat × Rl) → List Nat
  | [] => []
  | z :: zs => (rTs z.2).map (outT2 z.1) ++ jT zs
theorem jT_app (a b : List (Nat × Rl)) : jT (a ++ b) = jT a ++ jT b := by
  induction a with
  | nil => rfl
  | cons z zs ih =>
    show (rTs z.2).map (outT2 z.1) ++ jT (zs ++ b) = ((rTs z.2).map (outT2 z.1) ++ jT zs) ++ jT b
    rw [ih, List.append_assoc]
theorem jT_s {zs : List (Nat × Rl)} {i c : Nat} {t : Rl} (h : zs[i]? = some (c, t)) : jT (zs.take (i + 1)) = jT (zs.take i) ++ (rTs t).map (outT2 c) := by
  rw [List.take_add_one, h, jT_app]
  show jT (zs.take i) ++ ((rTs t).map (outT2 c) ++ []) = _
  rw [List.append_nil]
theorem jT_le (zs : List (Nat × Rl)) (i : Nat) : (jT (zs.take i)).length ≤ (jT zs).length := by
  have h : jT zs = jT (zs.take i) ++ jT (zs.drop i) := by rw [← jT_app, List.take_append_drop]
  rw [h, List.length_append]; omega
theorem jT_mem {zs : List (Nat × Rl)} {u : Nat} (h : u ∈ jT zs) : ∃ z, z ∈ zs ∧ ∃ w, w ∈ rTs z.2 ∧ outT2 z.1 w = u := by
  induction zs with
  | nil => cases h
  | cons z zs ih =>
    replace h : u ∈ (rTs z.2).map (outT2 z.1) ++ jT zs := h
    rcases List.mem_append.mp h with q | q
    · obtain ⟨w, h1, h2⟩ := List.mem_map.mp q
      exact ⟨z, List.mem_cons_self .., w, h1, h2⟩
    · obtain ⟨z', h1, h2⟩ := ih q
      exact ⟨z', List.mem_cons_of_mem _ h1, h2⟩
abbrev CS : Type := List Nat × List Rl
def joinA (r : Rl) (n q : Nat) (g : Nat → Bool) (zs : List (Nat × Rl)) (st : CS) : Option CS :=
  if 12 ≤ fnd (rT r * 12 + q) st.1 then none
  else if 40 ≤ st.2.length then none
  else if 6 < (jT zs).length then none
  else some (addP (rT r * 12 + q) st.1, st.2 ++ [(n, fnd (rT r * 12 + q) st.1, (mk g).1, (mk g).2, jT zs)])
def hits (p : Nat → Bool) : Bool := (List.range 100).any p
theorem hits_iff {p : Nat → Bool} : hits p = true ↔ ∃ s, s < 100 ∧ p s = true := by
  unfold hits
  rw [List.any_eq_true]
  exact ⟨fun ⟨s, h1, h2⟩ => ⟨s, List.mem_range.mp h1, h2⟩, fun ⟨s, h1, h2⟩ => ⟨s, List.mem_range.mpr h1, h2⟩⟩
/-- the search: terms that are left, what is chosen, the state, for which symbols -/
def ext (bs : List Rl) (r : Rl) (n : Nat) : List Nat → List (Nat × Rl) → Nat → (Nat → Bool) → CS → Option CS
  | [], zs, q, g, st => joinA r n q g zs st
  | c :: cs, zs, q, g, st => bs.foldl (fun o t => match o with
    | none => none
    | some st => if rF t = q ∧ hits (fun s => g s && tk c t s && opn bs (en r) cs (rT t) s) = true then ext bs r n cs (zs ++ [(c, t)]) (rT t) (fun s => g s && tk c t s) st else some st) (some st)
def extF (bs : List Rl) (r : Rl) (n c : Nat) (cs : List Nat) (zs : List (Nat × Rl)) (q : Nat) (g : Nat → Bool) (o : Option CS) (t : Rl) : Option CS := match o with
    | none => none
    | some st => if rF t = q ∧ hits (fun s => g s && tk c t s && opn bs (en r) cs (rT t) s) = true then ext bs r n cs (zs ++ [(c, t)]) (rT t) (fun s => g s && tk c t s) st else some st
theorem ext_c {bs : List Rl} {r : Rl} {n c q : Nat} {cs : List Nat} {zs : List (Nat × Rl)} {g : Nat → Bool} {st : CS} : ext bs r n (c :: cs) zs q g st = bs.foldl (extF bs r n c cs zs q g) (some st) := rfl
theorem fold_s {α β : Type} (f : β → α → β) (b : β) {l : List α} {i : Nat} {a : α} (h : l[i]? = some a) : (l.take (i + 1)).foldl f b = f ((l.take i).foldl f b) a := by
  rw [List.take_add_one, h, List.foldl_append]; rfl
def rulF (as bs : List Rl) (n p : Nat) (o : Option CS) (r : Rl) : Option CS := match o with
    | none => none
    | some st => if rF r = p / 12 ∧ hits (fun s => en r s && opn bs (en r) (rTs r) (p % 12) s) = true then ext bs r n (rTs r) [] (p % 12) (en r) st else some st
/-- the rules from a pair of states -/
def rulA (as bs : List Rl) (n p : Nat) (st : CS) : Option CS := as.foldl (rulF as bs n p) (some st)
def bld (as bs : List Rl) : Nat → Nat → CS → Option CS
  | 0, _, st => some st
  | f + 1, n, st => match st.1[n]? with
    | none => some st
    | some p => match rulA as bs n p st with
      | none => none
      | some st' => bld as bs f (n + 1) st'
def finA (F G : Nat) (ps : List Nat) : Nat → Nat
  | 0 => 0
  | n + 1 => match ps[n]? with
    | none => finA F G ps n
    | some p => if F.testBit (p / 12) && G.testBit (p % 12) then finA F G ps n ||| 2 ^ n else finA F G ps n
theorem finA_lt (F G : Nat) (ps : List Nat) : ∀ n, finA F G ps n < 2 ^ n := by
  intro n
  induction n with
  | zero => exact Nat.one_pos
  | succ n ih =>
    have h2 : 2 ^ n < 2 ^ (n + 1) := Nat.pow_lt_pow_right (by decide) (Nat.lt_succ_self n)
    show (match ps[n]? with
    | none => finA F G ps n
    | some p => if F.testBit (p / 12) && G.testBit (p % 12) then finA F G ps n ||| 2 ^ n else finA F G ps n) < 2 ^ (n + 1)
    split
    · omega
    · split
      · exact Nat.or_lt_two_pow (by omega) h2
      · omega
theorem and_small : ∀ n, n < 12 → ∀ S, S < 2 ^ n → S &&& (4095 - 2 ^ n) = S := by decide +kernel
theorem finA_mk {F G n p : Nat} {ps : List Nat} (hn : n < 12) (hp : ps[n]? = some p) : mkF (finA F G ps n) n (F.testBit (p / 12) && G.testBit (p % 12)) = finA F G ps (n + 1) := by
  show _ = (match ps[n]? with
    | none => finA F G ps n
    | some p => if F.testBit (p / 12) && G.testBit (p % 12) then finA F G ps n ||| 2 ^ n else finA F G ps n)
  rw [hp]
  dsimp only
  generalize (F.testBit (p / 12) && G.testBit (p % 12)) = b
  unfold mkF
  cases b with
  | true => rfl
  | false => exact and_small n hn _ (finA_lt F G ps n)
/-- when a term may stand -/
theorem outT2_ok {c t s : Nat} (hc : okT c) (ht : okT t) (hs : s < 100) (h1 : 0 ≤ val c s ∧ val c s < 100) (h2 : 0 ≤ val t (val c s) ∧ val t (val c s) < 100) : okT (outT2 c t) ∧ (100 ≤ t → 1000 ≤ c + t) := by
  unfold okT at *
  unfold outT2
  unfold val at h1 h2
  by_cases c1 : t < 100
  · rw [if_pos c1]; omega
  · rw [if_neg c1] at h2 ⊢
    by_cases c2 : c < 100
    · rw [if_pos c2] at h2 h1; omega
    · rw [if_neg c2] at h2 h1; omega
