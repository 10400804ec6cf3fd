/-! ===== the shortest word of the domain ===== -/
theorem foldT_iff {p s q : Nat} : ∀ (rs : List Rl) (X : Nat), (rs.foldl (addT p s) X).testBit q = true ↔ X.testBit q = true ∨ ∃ r, r ∈ rs ∧ rF r = p ∧ en r s = true ∧ rT r = q := by
  intro rs
  induction rs with
  | nil => intro X; simp
  | cons r rs ih =>
    intro X
    rw [List.foldl_cons, ih]
    have h1 : (addT p s X r).testBit q = true ↔ X.testBit q = true ∨ (rF r = p ∧ en r s = true ∧ rT r = q) := by
      unfold addT
      by_cases c : (decide (rF r = p) && en r s) = true
      · rw [if_pos c, bit_or, Nat.testBit_two_pow, decide_eq_true_eq]
        rw [Bool.and_eq_true, decide_eq_true_eq] at c
        exact ⟨fun h => h.elim Or.inl (fun h => Or.inr ⟨c.1, c.2, h⟩), fun h => h.elim Or.inl (fun h => Or.inr h.2.2)⟩
      · rw [if_neg c]
        rw [Bool.and_eq_true, decide_eq_true_eq] at c
        exact ⟨Or.inl, fun h => h.elim id (fun h => absurd ⟨h.1, h.2.1⟩ c)⟩
    rw [h1]
    constructor
    · rintro ((h | h) | ⟨r', hr, h⟩)
      · exact Or.inl h
      · exact Or.inr ⟨r, List.mem_cons_self .., h⟩
      · exact Or.inr ⟨r', List.mem_cons_of_mem _ hr, h⟩
    · rintro (h | ⟨r', hr, h⟩)
      · exact Or.inl (Or.inl h)
      · rcases List.mem_cons.mp hr with c | c
        · exact Or.inl (Or.inr (c ▸ h))
        · exact Or.inr ⟨r', c, h⟩
theorem tg_iff {rs : List Rl} {p s q : Nat} : (tg rs p s).testBit q = true ↔ ∃ r, r ∈ rs ∧ rF r = p ∧ en r s = true ∧ rT r = q := by
  unfold tg
  rw [foldT_iff, Nat.zero_testBit]
  exact ⟨fun h => h.elim (fun h => by cases h) id, Or.inr⟩
theorem foldW_iff {S q : Nat} : ∀ (rs : List Rl) (X : Nat), (rs.foldl (stW S) X).testBit q = true ↔ X.testBit q = true ∨ ∃ r, r ∈ rs ∧ S.testBit (rT r) = true ∧ ever r = true ∧ rF r = q := by
  intro rs
  induction rs with
  | nil => intro X; simp
  | cons r rs ih =>
    intro X
    rw [List.foldl_cons, ih]
    have h1 : (stW S X r).testBit q = true ↔ X.testBit q = true ∨ (S.testBit (rT r) = true ∧ ever r = true ∧ rF r = q) := by
      unfold stW
      by_cases c : (S.testBit (rT r) && ever r) = true
      · rw [if_pos c, bit_or, Nat.testBit_two_pow, decide_eq_true_eq]
        rw [Bool.and_eq_true] at c
        exact ⟨fun h => h.elim Or.inl (fun h => Or.inr ⟨c.1, c.2, h⟩), fun h => h.elim Or.inl (fun h => Or.inr h.2.2)⟩
      · rw [if_neg c]
        rw [Bool.and_eq_true] at c
        exact ⟨Or.inl, fun h => h.elim id (fun h => absurd ⟨h.1, h.2.1⟩ c)⟩
    rw [h1]
    constructor
    · rintro ((h | h) | ⟨r', hr, h⟩)
      · exact Or.inl h
      · exact Or.inr ⟨r, List.mem_cons_self .., h⟩
      · exact Or.inr ⟨r', List.mem_cons_of_mem _ hr, h⟩
    · rintro (h | ⟨r', hr, h⟩)
      · exact Or.inl (Or.inl h)
      · rcases List.mem_cons.mp hr with c | c
        · exact Or.inl (Or.inr (c ▸ h))
        · exact Or.inr ⟨r', c, h⟩
/-- the states from which so many or fewer symbols lead to a final one -/
abbrev nr (T : Tr) (k : Nat) : Nat := itW T.2 T.1 k
theorem nr_iff {T : Tr} {k q : Nat} : (nr T (k + 1)).testBit q = true ↔ (nr T k).testBit q = true ∨ ∃ r, r ∈ T.2 ∧ (nr T k).testBit (rT r) = true ∧ ever r = true ∧ rF r = q := foldW_iff T.2 _
theorem nr_mono {T : Tr} {j k q : Nat} (h : (nr T j).testBit q = true) (hjk : j ≤ k) : (nr T k).testBit q = true := by
  induction k with
  | zero => have : j = 0 := by omega
            rw [← this]; exact h
  | succ k ih =>
    by_cases c : j = k + 1
    · rw [← c]; exact h
    · exact nr_iff.mpr (Or.inl (ih (by omega)))
theorem nr_1 {T : Tr} {k p s q : Nat} (hs : s < 100) (ht : (tg T.2 p s).testBit q = true) (hq : (nr T k).testBit q = true) : (nr T (k + 1)).testBit p = true := by
  obtain ⟨r, h1, h2, h3, h4⟩ := tg_iff.mp ht
  exact nr_iff.mpr (Or.inr ⟨r, h1, by rw [h4]; exact hq, ever_iff.mpr ⟨s, hs, h3⟩, h2⟩)
theorem nr_2 {T : Tr} {k p : Nat} (h : (nr T (k + 1)).testBit p = true) (hn : (nr T k).testBit p = false) : ∃ s q, s < 100 ∧ (tg T.2 p s).testBit q = true ∧ (nr T k).testBit q = true := by
  rcases nr_iff.mp h with c | ⟨r, h1, h2, h3, h4⟩
  · rw [c] at hn; cases hn
  · obtain ⟨s, hs, he⟩ := ever_iff.mp h3
    exact ⟨s, rT r, hs, tg_iff.mpr ⟨r, h1, h4, he, rfl⟩, h2⟩
/-- the states from which a symbol leads into a set -/
def preP (rs : List Rl) (X p s : Nat) : Bool := decide (tg rs p s &&& X ≠ 0)
def preN (rs : List Rl) (X : Nat) : Nat → Nat
  | 0 => 0
  | p + 1 => preN rs X p ||| (if (List.range 100).any (preP rs X p) then 2 ^ p else 0)
theorem preN_iff {rs : List Rl} {X p : Nat} : ∀ n, (preN rs X n).testBit p = true ↔ p < n ∧ ∃ s, s < 100 ∧ tg rs p s &&& X ≠ 0 := by
  intro n
  induction n with
  | zero =>
    show (0 : Nat).testBit p = true ↔ _
    rw [Nat.zero_testBit]
    exact ⟨fun h => (by cases h), fun h => absurd h.1 (by omega)⟩
  | succ n ih =>
    show (preN rs X n ||| _).testBit p = true ↔ _
    rw [bit_or, ih]
    have hany : (List.range 100).any (preP rs X n) = true ↔ ∃ s, s < 100 ∧ tg rs n s &&& X ≠ 0 := by
      simp only [List.any_eq_true, List.mem_range, preP, decide_eq_true_eq]
    constructor
    · rintro (h | h)
      · exact ⟨by omega, h.2⟩
      · by_cases c : (List.range 100).any (preP rs X n) = true
        · rw [if_pos c, Nat.testBit_two_pow, decide_eq_true_eq] at h
          subst h
          exact ⟨by omega, hany.mp c⟩
        · rw [if_neg c, Nat.zero_testBit] at h; cases h
    · rintro ⟨h1, h2⟩
      by_cases c : p = n
      · subst c
        exact Or.inr (by rw [if_pos (hany.mpr h2), Nat.testBit_two_pow, decide_eq_true_eq])
      · exact Or.inl ⟨by omega, h2⟩
def ex (T : Tr) : Nat → Nat
  | 0 => T.1
  | k + 1 => preN T.2 (ex T k) 12
theorem ex_lt {T : Tr} (hT : okTr T) (k : Nat) : ex T k < 4096 := by
  cases k with
  | zero => exact hT.1
  | succ k => exact lt_12 (fun q h => ((preN_iff 12).mp h).1)
theorem ex_nr {T : Tr} : ∀ k q, (ex T k).testBit q = true → (nr T k).testBit q = true := by
  intro k
  induction k with
  | zero => intro q h; exact h
  | succ k ih =>
    intro q h
    obtain ⟨_, s, hs, hne⟩ := (preN_iff 12).mp h
    obtain ⟨q', h1, h2⟩ := and_ne.mp hne
    exact nr_1 hs h1 (ih q' h2)
theorem nr_ex {T : Tr} (hT : okTr T) : ∀ k q, (nr T k).testBit q = true → (∀ j, j < k → (nr T j).testBit q = false) → (ex T k).testBit q = true := by
  intro k
  induction k with
  | zero => intro q h _; exact h
  | succ k ih =>
    intro q h hn
    obtain ⟨s, q', hs, ht, hq⟩ := nr_2 h (hn k (by omega))
    refine (preN_iff 12).mpr ⟨bit_12 (itW_lt hT.2 hT.1 _) h, s, hs, and_ne.mpr ⟨q', ht, ih q' hq (fun j hj => ?_)⟩⟩
    cases e : (nr T j).testBit q' with
    | false => rfl
    | true => have := hn (j + 1) (by omega)
              rw [nr_1 hs ht e] at this; cases this
/-- the first symbol for which something holds, or the last one tried -/
def fb (p : Nat → Bool) : Nat → Nat → Nat
  | 0, s => s
  | k + 1, s => if p s then s else fb p k (s + 1)
theorem fb_le (p : Nat → Bool) : ∀ k s, fb p k s ≤ s + k := by
  intro k
  induction k with
  | zero => intro s; exact Nat.le_refl _
  | succ k ih =>
    intro s
    show (if p s then s else fb p k (s + 1)) ≤ _
    by_cases c : p s = true
    · rw [if_pos c]; omega
    · rw [if_neg c]; have := ih (s + 1); omega
theorem fb_ext {p p' : Nat → Bool} : ∀ k s, (∀ t, t ≤ s + k → p t = p' t) → fb p k s = fb p' k s := by
  intro k
  induction k with
  | zero => intro s _; rfl
  | succ k ih =>
    intro s h
    show (if p s then s else fb p k (s + 1)) = (if p' s then s else fb p' k (s + 1))
    rw [h s (by omega), ih (s + 1) (fun t ht => h t (by omega))]
theorem fb_has {p : Nat → Bool} : ∀ k s, (∃ t, s ≤ t ∧ t ≤ s + k ∧ p t = true) → p (fb p k s) = true := by
  intro k
  induction k with
  | zero => rintro s ⟨t, h1, h2, h3⟩; have : t = s := by omega
            rw [← this]; exact h3
  | succ k ih =>
    rintro s ⟨t, h1, h2, h3⟩
    show p (if p s then s else fb p k (s + 1)) = true
    by_cases c : p s = true
    · rw [if_pos c]; exact c
    · rw [if_neg c]
      refine ih (s + 1) ⟨t, ?_, by omega, h3⟩
      by_cases e : t = s
      · rw [e] at h3; exact absurd h3 c
      · omega
def hitP (rs : List Rl) (S W s : Nat) : Bool := decide (aft rs S s &&& W ≠ 0)
def sw1 (T : Tr) (k S : Nat) : Nat := fb (hitP T.2 S (ex T k)) 99 0
def swd (T : Tr) : Nat → Nat → List Nat
  | 0, _ => []
  | k + 1, S => sw1 T k S :: swd T k (aft T.2 S (sw1 T k S))
theorem sw1_lt (T : Tr) (k S : Nat) : sw1 T k S < 100 := by
  have := fb_le (hitP T.2 S (ex T k)) 99 0
  unfold sw1; omega
theorem swd_ok (T : Tr) : ∀ k S, (swd T k S).length = k ∧ ∀ s, s ∈ swd T k S → s < 100 := by
  intro k
  induction k with
  | zero => intro S; exact ⟨rfl, fun s h => by cases h⟩
  | succ k ih =>
    intro S
    obtain ⟨h1, h2⟩ := ih (aft T.2 S (sw1 T k S))
    refine ⟨by show (_ :: _).length = _; rw [List.length_cons, h1], fun s h => ?_⟩
    rcases List.mem_cons.mp h with c | c
    · rw [c]; exact sw1_lt T k S
    · exact h2 s c
/-- the states on the way: none is near enough for a shorter word -/
def onW (T : Tr) (n i S : Nat) : Prop := S < 4096 ∧ (∀ q k, S.testBit q = true → k + i < n → (nr T k).testBit q = false) ∧ S &&& nr T (n - i) ≠ 0
theorem onW_0 {T : Tr} {n : Nat} (hn : (nr T n).testBit 0 = true) (hm : ∀ j, j < n → (nr T j).testBit 0 = false) : onW T n 0 1 := by
  have one : ∀ q, (1 : Nat).testBit q = true → q = 0 := fun q hq => by
    rw [Nat.testBit_one_eq_true_iff_self_eq_zero] at hq; exact hq
  exact ⟨by omega, fun q k hq hk => by rw [one q hq]; exact hm k (by omega), and_ne.mpr ⟨0, by decide, hn⟩⟩
theorem onW_s {T : Tr} {n i S s : Nat} (hT : okTr T) (h : onW T n i S) (hi : i < n) (hs : s < 100) : (∀ q k, (aft T.2 S s).testBit q = true → k + (i + 1) < n → (nr T k).testBit q = false) ∧ aft T.2 (S &&& nr T (n - i)) s &&& nr T (n - 1 - i) = aft T.2 S s &&& nr T (n - (i + 1)) ∧ (aft T.2 S s &&& ex T (n - 1 - i) ≠ 0 ↔ aft T.2 (S &&& nr T (n - i)) s &&& nr T (n - 1 - i) ≠ 0) := by
  have no : ∀ q k, (aft T.2 S s).testBit q = true → k + (i + 1) < n → (nr T k).testBit q = false := fun q k hq hk => by
    obtain ⟨p, _, hp, ht⟩ := aft_iff.mp hq
    cases e : (nr T k).testBit q with
    | false => rfl
    | true => have := h.2.1 p (k + 1) hp (by omega)
              rw [nr_1 hs ht e] at this; cases this
  have e4 : aft T.2 (S &&& nr T (n - i)) s &&& nr T (n - 1 - i) = aft T.2 S s &&& nr T (n - (i + 1)) := by
    have en : n - (i + 1) = n - 1 - i := by omega
    rw [en]
    refine Nat.eq_of_testBit_eq (fun q => ?_)
    rw [Bool.eq_iff_iff, Nat.testBit_and, Nat.testBit_and, Bool.and_eq_true, Bool.and_eq_true, aft_iff, aft_iff]
    constructor
    · rintro ⟨⟨p, h1, h2, h3⟩, h4⟩
      rw [Nat.testBit_and, Bool.and_eq_true] at h2
      exact ⟨⟨p, h1, h2.1, h3⟩, h4⟩
    · rintro ⟨⟨p, h1, h2, h3⟩, h4⟩
      refine ⟨⟨p, h1, ?_, h3⟩, h4⟩
      rw [Nat.testBit_and, Bool.and_eq_true]
      have := nr_1 hs h3 h4
      rw [show n - 1 - i + 1 = n - i by omega] at this
      exact ⟨h2, this⟩
  refine ⟨no, e4, ?_⟩
  rw [e4, and_ne, and_ne, show n - (i + 1) = n - 1 - i by omega]
  constructor
  · rintro ⟨q, h1, h2⟩; exact ⟨q, h1, ex_nr _ q h2⟩
  · rintro ⟨q, h1, h2⟩; exact ⟨q, h1, nr_ex hT _ q h2 (fun j hj => no q j h1 (by omega))⟩
theorem onW_ex {T : Tr} {n i S : Nat} (hT : okTr T) (h : onW T n i S) (hi : i < n) : ∃ s, s < 100 ∧ aft T.2 S s &&& ex T (n - 1 - i) ≠ 0 := by
  obtain ⟨p, h1, h2⟩ := and_ne.mp h.2.2
  rw [show n - i = n - 1 - i + 1 by omega] at h2
  obtain ⟨s, q, hs, ht, hq⟩ := nr_2 h2 (h.2.1 p (n - 1 - i) h1 (by omega))
  have ha : (aft T.2 S s).testBit q = true := aft_iff.mpr ⟨p, bit_12 h.1 h1, h1, ht⟩
  refine ⟨s, hs, and_ne.mpr ⟨q, ha, nr_ex hT _ q hq (fun j hj => (onW_s hT h hi hs).1 q j ha (by omega))⟩⟩
/-- the symbol of both, and what comes after it -/
theorem onW_n {T : Tr} {n i S : Nat} (hT : okTr T) (h : onW T n i S) (hi : i < n) : fb (hitP T.2 (S &&& nr T (n - i)) (nr T (n - 1 - i))) 99 0 = sw1 T (n - 1 - i) S ∧ aft T.2 S (sw1 T (n - 1 - i) S) &&& ex T (n - 1 - i) ≠ 0 ∧ onW T n (i + 1) (aft T.2 S (sw1 T (n - 1 - i) S)) := by
  have e1 : fb (hitP T.2 (S &&& nr T (n - i)) (nr T (n - 1 - i))) 99 0 = sw1 T (n - 1 - i) S := by
    refine fb_ext 99 0 (fun t ht => ?_)
    unfold hitP
    rw [decide_eq_decide]
    exact (onW_s hT h hi (show t < 100 by omega)).2.2.symm
  obtain ⟨s, hs, hne⟩ := onW_ex hT h hi
  have e2 : hitP T.2 S (ex T (n - 1 - i)) (sw1 T (n - 1 - i) S) = true := fb_has 99 0 ⟨s, by omega, by omega, decide_eq_true hne⟩
  have e2' := of_decide_eq_true e2
  have sl := sw1_lt T (n - 1 - i) S
  have f := onW_s hT h hi sl
  exact ⟨e1, e2', aftN_lt hT.2 12, f.1, by rw [← f.2.1]; exact f.2.2.mp e2'⟩
theorem least {p : Nat → Bool} : ∀ N, p N = true → ∃ n, n ≤ N ∧ p n = true ∧ ∀ j, j < n → p j = false := by
  intro N
  induction N with
  | zero => intro h; exact ⟨0, by omega, h, fun j hj => absurd hj (by omega)⟩
  | succ N ih =>
    intro h
    cases e : p N with
    | true => obtain ⟨n, h1, h2, h3⟩ := ih e
              exact ⟨n, by omega, h2, h3⟩
    | false =>
      by_cases c : ∃ n, n ≤ N ∧ p n = true
      · obtain ⟨n, hn, hp⟩ := c
        -- the least below
        have : ∀ k, k ≤ N + 1 → (∀ j, j < k → p j = false) ∨ ∃ n, n < k ∧ p n = true ∧ ∀ j, j < n → p j = false := by
          intro k
          induction k with
          | zero => intro _; exact Or.inl (fun j hj => absurd hj (by omega))
          | succ k ihk =>
            intro hk
            rcases ihk (by omega) with a | ⟨n, a1, a2, a3⟩
            · cases ek : p k with
              | true => exact Or.inr ⟨k, by omega, ek, a⟩
              | false => exact Or.inl (fun j hj => by
                  by_cases z : j = k
                  · rw [z]; exact ek
                  · exact a j (by omega))
            · exact Or.inr ⟨n, by omega, a2, a3⟩
        rcases this (N + 1) (Nat.le_refl _) with a | ⟨n', a1, a2, a3⟩
        · rw [a n (by omega)] at hp; cases hp
        · exact ⟨n', by omega, a2, a3⟩
      · refine ⟨N + 1, Nat.le_refl _, h, fun j hj => ?_⟩
        cases ej : p j with
        | false => rfl
        | true => exact absurd ⟨j, by omega, ej⟩ c
theorem i32_99 {n : Nat} (hn : n < 100000) : ((99 : Int32) ≤ Int32.ofInt (n : Int)) ↔ 99 ≤ n := by
  have h : ((99 : Int32) ≤ Int32.ofInt (n : Int)) ↔ (99 : Int) ≤ (n : Int) := oi_lle ⟨by omega, by decide⟩
  rw [h]; omega
theorem i32_11 {n : Nat} (hn : n < 100000) : ((11 : Int32) ≤ Int32.ofInt (n : Int)) ↔ 11 ≤ n := by
  have h : ((11 : Int32) ≤ Int32.ofInt (n : Int)) ↔ (11 : Int) ≤ (n : Int) := oi_lle ⟨by omega, by decide⟩
  rw [h]; omega
theorem s_Do_firstSymbol {σ : pm_H} {e S W : Nat} {T : Tr} (hd : doS σ e) (hs : isSt σ (e + 1) T) (hT : okTr T) (hS : S < 4096) (hW : W < 4096) : cI 2 17 [.ref e, .int (Int32.ofInt (S : Int)), .int (Int32.ofInt (W : Int))] σ (Int32.ofInt ((fb (hitP T.2 S W) 99 0 : Nat) : Int)) := by
  refine w_Do_firstSymbol_0 ?_
  refine lp (fun s => [.ref e, .int (Int32.ofInt (S : Int)), .int (Int32.ofInt (W : Int)), .int (Int32.ofInt (s : Nat))]) (fun s τ => τ = σ ∧ fb (hitP T.2 S W) 99 0 = fb (hitP T.2 S W) (99 - s) s) 99 (fun s hs' τ hh next => ?_) (fun τ hh => ?_) 0 (Nat.zero_le _) σ ⟨rfl, rfl⟩
  · obtain ⟨rfl, hf⟩ := hh
    have al : aft T.2 S s < 4096 := aftN_lt hT.2 12
    refine w_Do_firstSymbol_2 ⟨fun q => ?_, fun _ => ?_⟩
    · rw [i32_99 (by omega)] at q; omega
    simp only [hd.1, hd.2.1.1, hs.1.1, isr_ref, rv_ref, true_and, forall_eq]
    refine (s_St_after hs hS (by omega)).use (by omega) ?_
    rw [i_andN, i_0 (by have := and_lt4 (b := W) al; omega), oi_s]
    have e99 : 99 - s = (99 - (s + 1)) + 1 := by omega
    rw [e99] at hf
    replace hf : fb (hitP T.2 S W) 99 0 = (if hitP T.2 S W s then s else fb (hitP T.2 S W) (99 - (s + 1)) (s + 1)) := hf
    refine ⟨fun c => next τ ⟨rfl, ?_⟩, fun c => ⟨?_, rfl⟩⟩
    · rw [if_neg (by unfold hitP; rw [decide_eq_true_eq]; exact fun q => q c)] at hf; exact hf
    · rw [if_pos (by unfold hitP; rw [decide_eq_true_eq]; exact c)] at hf
      rw [hf]
  · obtain ⟨rfl, hf⟩ := hh
    refine w_Do_firstSymbol_2 ⟨fun _ => ⟨?_, rfl⟩, fun q => absurd (Int32.le_refl _) q⟩
    rw [hf]; rfl
