/-! ===== rules ===== -/
/-- a rule: from, to, guard, terms as the class codes them -/
abbrev Rl : Type := Nat × Nat × Int64 × Int64 × List Nat
def rF (r : Rl) : Nat := r.1
def rT (r : Rl) : Nat := r.2.1
def rLo (r : Rl) : Int64 := r.2.2.1
def rHi (r : Rl) : Int64 := r.2.2.2.1
def rTs (r : Rl) : List Nat := r.2.2.2.2
def tLo (ts : List Nat) : Int := ts.foldl (fun (a : Int) (t : Nat) => if t < 100 then a else if a < 1000 - (t : Int) then 1000 - (t : Int) else a) 0
def tHi (ts : List Nat) : Int := ts.foldl (fun (a : Int) (t : Nat) => if t < 100 then a else if 1099 - (t : Int) < a then 1099 - (t : Int) else a) 99
/-- the value of a term for a symbol -/
def val (t : Nat) (s : Int) : Int := if t < 100 then t else s + t - 1000
/-- enabled -/
def en (r : Rl) (s : Nat) : Bool := sy (rLo r) (rHi r) s && (rTs r).all (fun t => decide (0 ≤ val t s ∧ val t s < 100))
def okT (t : Nat) : Prop := t < 100 ∨ (901 ≤ t ∧ t ≤ 1099)
def okG (hi : Int64) : Prop := ∀ j, 36 ≤ j → bt hi j = false
def okTs (ts : List Nat) : Prop := ts.length ≤ 6 ∧ ∀ t, t ∈ ts → okT t
def okR (r : Rl) : Prop := rF r < 12 ∧ rT r < 12 ∧ okG (rHi r) ∧ okTs (rTs r)
theorem tLo_app (ts : List Nat) (t : Nat) : tLo (ts ++ [t]) = if t < 100 then tLo ts else if tLo ts < 1000 - (t : Int) then 1000 - (t : Int) else tLo ts := by
  unfold tLo; rw [List.foldl_append]; rfl
theorem tHi_app (ts : List Nat) (t : Nat) : tHi (ts ++ [t]) = if t < 100 then tHi ts else if 1099 - (t : Int) < tHi ts then 1099 - (t : Int) else tHi ts := by
  unfold tHi; rw [List.foldl_append]; rfl
theorem tLo_iff (ts : List Nat) (s : Int) : tLo ts ≤ s ↔ 0 ≤ s ∧ ∀ t, t ∈ ts → 100 ≤ t → 1000 - (t : Int) ≤ s := by
  unfold tLo
  suffices h : ∀ (ts : List Nat) (a : Int), ts.foldl (fun (a : Int) (t : Nat) => if t < 100 then a else if a < 1000 - (t : Int) then 1000 - (t : Int) else a) a ≤ s ↔ a ≤ s ∧ ∀ t, t ∈ ts → 100 ≤ t → 1000 - (t : Int) ≤ s from h ts 0
  intro ts
  induction ts with
  | nil => intro a; simp
  | cons t ts ih =>
    intro a
    rw [List.foldl_cons, ih]
    simp only [List.mem_cons, forall_eq_or_imp]
    split
    · constructor
      · rintro ⟨h1, h2⟩; exact ⟨h1, fun q => by omega, h2⟩
      · rintro ⟨h1, _, h2⟩; exact ⟨h1, h2⟩
    · split
      · constructor
        · rintro ⟨h1, h2⟩; exact ⟨by omega, fun q => by omega, h2⟩
        · rintro ⟨h1, h3, h2⟩; exact ⟨h3 (by omega), h2⟩
      · constructor
        · rintro ⟨h1, h2⟩; exact ⟨by omega, fun q => by omega, h2⟩
        · rintro ⟨h1, h3, h2⟩; exact ⟨h1, h2⟩
theorem tHi_iff (ts : List Nat) (s : Int) : s ≤ tHi ts ↔ s ≤ 99 ∧ ∀ t, t ∈ ts → 100 ≤ t → s ≤ 1099 - (t : Int) := by
  unfold tHi
  suffices h : ∀ (ts : List Nat) (a : Int), s ≤ ts.foldl (fun (a : Int) (t : Nat) => if t < 100 then a else if 1099 - (t : Int) < a then 1099 - (t : Int) else a) a ↔ s ≤ a ∧ ∀ t, t ∈ ts → 100 ≤ t → s ≤ 1099 - (t : Int) from h ts 99
  intro ts
  induction ts with
  | nil => intro a; simp
  | cons t ts ih =>
    intro a
    rw [List.foldl_cons, ih]
    simp only [List.mem_cons, forall_eq_or_imp]
    split
    · constructor
      · rintro ⟨h1, h2⟩; exact ⟨h1, fun q => by omega, h2⟩
      · rintro ⟨h1, _, h2⟩; exact ⟨h1, h2⟩
    · split
      · constructor
        · rintro ⟨h1, h2⟩; exact ⟨by omega, fun q => by omega, h2⟩
        · rintro ⟨h1, h3, h2⟩; exact ⟨h3 (by omega), h2⟩
      · constructor
        · rintro ⟨h1, h2⟩; exact ⟨by omega, fun q => by omega, h2⟩
        · rintro ⟨h1, h3, h2⟩; exact ⟨h1, h2⟩
theorem tLo_0 (ts : List Nat) : 0 ≤ tLo ts := ((tLo_iff ts _).mp (Int.le_refl _)).1
theorem tHi_99 (ts : List Nat) : tHi ts ≤ 99 := ((tHi_iff ts _).mp (Int.le_refl _)).1
theorem tLo_le {ts : List Nat} (h : ∀ t, t ∈ ts → t < 100000) : tLo ts ≤ 900 := (tLo_iff ts _).mpr ⟨by omega, fun t ht h1 => by omega⟩
theorem tHi_ge {ts : List Nat} (h : ∀ t, t ∈ ts → t < 100000) : -100000 ≤ tHi ts := (tHi_iff ts _).mpr ⟨by omega, fun t ht h1 => by have := h t ht; omega⟩
/-- the interval and the guard say when a rule is enabled -/
theorem en_iff {r : Rl} {s : Nat} (hs : s < 100) : en r s = true ↔ (tLo (rTs r) ≤ s ∧ (s : Int) ≤ tHi (rTs r)) ∧ sy (rLo r) (rHi r) s = true := by
  unfold en
  rw [Bool.and_eq_true, List.all_eq_true, tLo_iff, tHi_iff]
  constructor
  · rintro ⟨h1, h2⟩
    refine ⟨⟨⟨by omega, fun t ht h => ?_⟩, by omega, fun t ht h => ?_⟩, h1⟩
    all_goals
      have := of_decide_eq_true (h2 t ht)
      unfold val at this
      rw [if_neg (by omega)] at this
      omega
  · rintro ⟨⟨⟨_, h1⟩, _, h2⟩, h3⟩
    refine ⟨h3, fun t ht => ?_⟩
    refine decide_eq_true ?_
    unfold val
    split
    · omega
    · have := h1 t ht (by omega)
      have := h2 t ht (by omega)
      omega
/-- the fixed part of a rule's object; its values -/
def ruS (σ : pm_H) (ρ : Nat) : Prop := pm_t σ ρ = 7 ∧ pm_F σ 602 ρ = .ref (ρ + 1) ∧ pm_F σ 603 ρ = .ref (ρ + 2) ∧ pm_t σ (ρ + 1) = 9 ∧ pm_t σ (ρ + 2) = 100 ∧ pm_l σ (ρ + 2) = 6
def ruV (σ : pm_H) (ρ : Nat) (r : Rl) : Prop := pm_F σ 600 ρ = .int (Int32.ofInt (rF r)) ∧ pm_F σ 601 ρ = .int (Int32.ofInt (rT r)) ∧ pm_F σ 604 ρ = .int (Int32.ofInt ((rTs r).length)) ∧ pm_F σ 605 ρ = .int (Int32.ofInt (tLo (rTs r))) ∧ pm_F σ 606 ρ = .int (Int32.ofInt (tHi (rTs r))) ∧ pm_F σ 800 (ρ + 1) = .long (rLo r) ∧ pm_F σ 801 (ρ + 1) = .long (rHi r) ∧ ∀ (k t : Nat), (rTs r)[k]? = some t → pm_A σ (ρ + 2) k = .int (Int32.ofInt (t : Int))
def isRu (σ : pm_H) (ρ : Nat) (r : Rl) : Prop := ruS σ ρ ∧ ruV σ ρ r
/-- the three cells of a rule -/
def pRu (ρ : Nat) (a : Nat) : Prop := ρ ≤ a ∧ a < ρ + 3
theorem ruS_fr {P : Nat → Prop} {σ σ' : pm_H} {ρ : Nat} (h : ruS σ ρ) (hf : fr P σ σ') (hp : ¬ P ρ) : ruS σ' ρ := by
  obtain ⟨h1, h2, h3, h4, h5, h6⟩ := h
  exact ⟨by rw [hf.t, h1], by rw [hf.F hp, h2], by rw [hf.F hp, h3], by rw [hf.t, h4], by rw [hf.t, h5], by rw [hf.l, h6]⟩
theorem isRu_fr {P : Nat → Prop} {σ σ' : pm_H} {ρ : Nat} {r : Rl} (h : isRu σ ρ r) (hf : fr P σ σ') (hp : ∀ a, pRu ρ a → ¬ P a) : isRu σ' ρ r := by
  have p0 := hp ρ ⟨by omega, by omega⟩
  have p1 := hp (ρ + 1) ⟨by omega, by omega⟩
  have p2 := hp (ρ + 2) ⟨by omega, by omega⟩
  obtain ⟨hS, h1, h2, h3, h4, h5, h6, h7, h8⟩ := h
  refine ⟨ruS_fr hS hf p0, ?_, ?_, ?_, ?_, ?_, ?_, ?_, fun k t ht => ?_⟩
  · rw [hf.F p0, h1]
  · rw [hf.F p0, h2]
  · rw [hf.F p0, h3]
  · rw [hf.F p0, h4]
  · rw [hf.F p0, h5]
  · rw [hf.F p1, h6]
  · rw [hf.F p1, h7]
  · rw [hf.A p2, h8 k t ht]
theorem isRu.g {σ : pm_H} {ρ : Nat} {r : Rl} (h : isRu σ ρ r) : aSy σ (ρ + 1) (rLo r) (rHi r) := ⟨h.1.2.2.2.1, h.2.2.2.2.2.2.1, h.2.2.2.2.2.2.2.1⟩
theorem s_offT {σ : pm_H} {t : Int} (h : -2147483648 ≤ t ∧ t < 2147483648) : cI 0 159 [.int (Int32.ofInt t)] σ (bI (decide (100 ≤ t))) := by
  refine w_B_isOffsetTerm_0 ⟨fun q => ⟨rfl, ?_, rfl⟩, fun q => ⟨rfl, ?_, rfl⟩⟩
  · rw [oi_ltl ⟨h, by decide⟩] at q
    rw [decide_eq_false (by omega)]; rfl
  · rw [oi_ltl ⟨h, by decide⟩] at q
    rw [decide_eq_true (by omega)]; rfl
/-- begin -/
theorem s_Ru_begin {σ : pm_H} {ρ : Nat} (h : ruS σ ρ) (x y : Nat) : cV 1 59 [.ref ρ, .int (Int32.ofInt x), .int (Int32.ofInt y)] σ (fun σ' => isRu σ' ρ (x, y, 0, 0, []) ∧ fr (pRu ρ) σ σ') := by
  obtain ⟨h1, h2, h3, h4, h5, h6⟩ := h
  refine w_Ru_begin_0 ?_
  simp only [h1, h2, t_sF, F_sF, forall_eq, true_and, Nat.reduceEqDiff, false_and, if_false, isr_ref, rv_ref, h4]
  refine (s_clear (by simp only [t_sF, h4])).use (Nat.le_refl _) (fun σ' e => ?_)
  subst e
  simp only [uSy, h1, t_sF, true_and, forall_eq]
  refine ⟨⟨⟨h1, ?_, ?_, h4, h5, h6⟩, ?_⟩, ?_⟩
  · simp only [F_sF, Nat.reduceEqDiff, false_and, if_false, h2]
  · simp only [F_sF, Nat.reduceEqDiff, false_and, if_false, h3]
  · refine ⟨?_, ?_, ?_, ?_, ?_, ?_, ?_, fun k t ht => ?_⟩
    all_goals first | (simp [F_sF, rF, rT, rLo, rHi, rTs, tLo, tHi]; done) | (simp [rTs] at ht)
  · have p0 : pRu ρ ρ := ⟨by omega, by omega⟩
    have p1 : pRu ρ (ρ + 1) := ⟨by omega, by omega⟩
    exact (((((fr_sF p0).tr (fr_sF p0)).tr (fr_sF p1)).tr (fr_sF p1)).tr (fr_sF p0)).tr ((fr_sF p0).tr (fr_sF p0))
