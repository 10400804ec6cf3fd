/-! ===== the model's choice among outputs ===== -/
def mTri (σ : pm_H) (m : Nat) (c : List Nat) : Prop := ∀ (k s : Nat), c[k]? = some s → iv (pm_A σ (m + 18) k) = Int32.ofInt (s : Int)
/-- one entry of the table of outputs -/
def mEn (σ : pm_H) (m ix : Nat) (x : Option (List Nat)) : Prop := (x = none → iv (pm_A σ (m + 17) ix) = Int32.ofInt (-1)) ∧ ∀ l, x = some l → iv (pm_A σ (m + 17) ix) = Int32.ofInt (l.length : Int) ∧ ∀ (k s : Nat), l[k]? = some s → iv (pm_A σ (m + 16) (60 * ix + k)) = Int32.ofInt (s : Int)
theorem better_cons {last : Bool} {a b : Nat} {x y : List Nat} : better last (a :: x) (b :: y) = if a = b then better last x y else (decide (a < b) != last) := by
  unfold better
  cases last
  · simp only [Bool.false_eq_true, if_false, wlt]
    split <;> simp
  · simp only [if_true, wlt]
    by_cases e : a = b
    · rw [if_pos e, if_pos e.symm]
    · rw [if_neg e, if_neg (fun z => e z.symm)]
      by_cases q : a < b
      · rw [decide_eq_true q, decide_eq_false (by omega)]; rfl
      · rw [decide_eq_false q, decide_eq_true (by omega)]; rfl
theorem better_n1 {last : Bool} {b : Nat} {y : List Nat} : better last [] (b :: y) = (true != last) := by cases last <;> rfl
theorem better_n2 {last : Bool} {a : Nat} {x : List Nat} : better last (a :: x) [] = (false != last) := by cases last <;> rfl
theorem better_nn {last : Bool} : better last [] [] = false := by cases last <;> rfl
theorem oi_row60 (ix k : Nat) : (60 : Int32) * Int32.ofInt (ix : Int) + Int32.ofInt (k : Int) = Int32.ofInt ((60 * ix + k : Nat) : Int) := by
  rw [oi_lmul, oi_add]; congr 1
theorem oi_row12 (ix k : Nat) : (12 : Int32) * Int32.ofInt (ix : Int) + Int32.ofInt (k : Int) = Int32.ofInt ((12 * ix + k : Nat) : Int) := by
  rw [oi_lmul, oi_add]; congr 1
theorem b1_is {b : Bool} {P Q : Prop} (h1 : b = true → P) (h2 : b = false → Q) : ((1 : Int32) = bI b → P) ∧ (¬ (1 : Int32) = bI b → Q) := by
  cases b
  · exact ⟨fun z => absurd z (by decide), fun _ => h2 rfl⟩
  · exact ⟨fun _ => h1 rfl, fun z => absurd rfl z⟩
theorem b0_is {b : Bool} {P Q : Prop} (h1 : b = false → P) (h2 : b = true → Q) : ((0 : Int32) = bI b → P) ∧ (¬ (0 : Int32) = bI b → Q) := by
  cases b
  · exact ⟨fun _ => h1 rfl, fun z => absurd rfl z⟩
  · exact ⟨fun z => absurd z (by decide), fun _ => h2 rfl⟩
theorem s_M_isB_44 {σ : pm_H} {m ix k : Nat} {c b : List Nat} {last : Bool} (hm : mS σ m) (hc : mTri σ m c) (hb : mEn σ m ix (some b)) (hix : ix < 132) (hlc : c.length ≤ 60) (hlb : b.length ≤ 60) (bc : ∀ s, s ∈ c → s < 100) (bb : ∀ s, s ∈ b → s < 100) (k1 : k ≤ c.length) (k2 : k ≤ b.length) (k3 : ¬ (k = c.length ∧ k = b.length)) (k4 : ∀ x y, c[k]? = some x → b[k]? = some y → x ≠ y) : pm_R 0 207 44 [.ref m, .int (Int32.ofInt (c.length : Int)), .int (Int32.ofInt (ix : Int)), .int (bI last), .int (Int32.ofInt (k : Int)), pm_U] [] σ (fun o σ' => o = .inl (some (.int (bI (better last (c.drop k) (b.drop k))))) ∧ σ' = σ) := by
  have vx := vi hix (by omega)
  have wx := vc (show ix < 2000000 by omega)
  obtain ⟨b1, b2⟩ := hb.2 b rfl
  refine w_M_isBetter_44 ⟨fun e => ?_, fun e => ?_⟩
  · rw [oi_eq (by omega)] at e
    have hk : k = c.length := by omega
    have hr := List.getElem?_eq_getElem (show k < b.length by omega)
    generalize b[k] = y at hr
    rw [drop_cons hr, hk, List.drop_length, better_n1]
    refine b1_is (fun e => ?_) (fun e => ?_)
    · rw [e]; exact ⟨rfl, rfl, rfl⟩
    · rw [e]; exact ⟨rfl, rfl, rfl⟩
  · rw [oi_eq (by omega)] at e
    have hr := List.getElem?_eq_getElem (show k < c.length by omega)
    generalize c[k] = x at hr
    have hx := bc x (List.mem_of_getElem? hr)
    simp only [hm.1, hm.f17, hm.t17, hm.l17, isr_ref, rv_ref, vx, wx, b1, true_and, forall_eq]
    refine ⟨fun e2 => ?_, fun e2 => ?_⟩
    · rw [oi_le (by omega)] at e2
      have hk : k = b.length := by omega
      rw [drop_cons hr, hk, List.drop_length, better_n2]
      refine b0_is (fun e => ?_) (fun e => ?_)
      · rw [e]; exact ⟨rfl, rfl, trivial⟩
      · rw [e]; exact ⟨rfl, rfl, trivial⟩
    · rw [oi_le (by omega)] at e2
      have hr' := List.getElem?_eq_getElem (show k < b.length by omega)
      generalize b[k] = y at hr'
      have hy := bb y (List.mem_of_getElem? hr')
      have hne := k4 x y hr hr'
      have vk := vi (show k < 60 by omega) (by omega)
      have wk := vc (show k < 2000000 by omega)
      have vr := vi (show 60 * ix + k < 7920 by omega) (by omega)
      have wr := vc (show 60 * ix + k < 2000000 by omega)
      rw [drop_cons hr, drop_cons hr', better_cons, if_neg hne]
      simp only [hm.1, hm.f18, hm.t18, hm.l18, hm.f16, hm.t16, hm.l16, isr_ref, rv_ref, oi_row60, vk, wk, vr, wr, hc k x hr, b2 k y hr', true_and, forall_eq]
      refine ⟨fun e3 => ?_, fun e3 => ?_⟩
      · rw [oi_le (by omega)] at e3
        rw [decide_eq_false (by omega)]
        refine b0_is (fun e => ?_) (fun e => ?_)
        · rw [e]; exact ⟨rfl, rfl, trivial⟩
        · rw [e]; exact ⟨rfl, rfl, trivial⟩
      · rw [oi_le (by omega)] at e3
        rw [decide_eq_true (by omega)]
        refine b1_is (fun e => ?_) (fun e => ?_)
        · rw [e]; exact ⟨rfl, rfl, trivial⟩
        · rw [e]; exact ⟨rfl, rfl, trivial⟩
def betO (last : Bool) (c : List Nat) (x : Option (List Nat)) : Bool := match x with
  | none => true
  | some b => better last c b
theorem s_M_isBetter {σ : pm_H} {m ix : Nat} {c : List Nat} {x : Option (List Nat)} {last : Bool} (hm : mS σ m) (hc : mTri σ m c) (hx : mEn σ m ix x) (hix : ix < 132) (hlc : c.length ≤ 60) (bc : ∀ s, s ∈ c → s < 100) (bb : ∀ b, x = some b → b.length ≤ 60 ∧ ∀ s, s ∈ b → s < 100) : cI 0 207 [.ref m, .int (Int32.ofInt (c.length : Int)), .int (Int32.ofInt (ix : Int)), .int (bI last)] σ (bI (betO last c x)) := by
  have vx := vi hix (by omega)
  have wx := vc (show ix < 2000000 by omega)
  cases x with
  | none =>
    refine w_M_isBetter_0 ?_
    simp only [hm.1, hm.f17, hm.t17, hm.l17, isr_ref, rv_ref, vx, wx, hx.1 rfl, true_and, forall_eq]
    exact ⟨fun z => absurd z (by decide), fun _ => ⟨rfl, rfl, trivial⟩⟩
  | some b =>
    obtain ⟨hlb, bb⟩ := bb b rfl
    obtain ⟨b1, b2⟩ := hx.2 b rfl
    have p0 : (0 : Int32) ≤ Int32.ofInt (b.length : Int) := by rw [oi_lle ⟨by omega, by decide⟩]; omega
    refine w_M_isBetter_0 ?_
    simp only [hm.1, hm.f17, hm.t17, hm.l17, isr_ref, rv_ref, vx, wx, b1, p0, not_true_eq_false, false_implies, true_implies, and_true, true_and, forall_eq]
    show pm_R 0 207 9 _ _ _ (fun o σ' => o = .inl (some (.int (bI (better last c b)))) ∧ σ' = σ)
    have R44 : ∀ k, k ≤ c.length → k ≤ b.length → ¬ (k = c.length ∧ k = b.length) → (∀ x y, c[k]? = some x → b[k]? = some y → x ≠ y) → better last c b = better last (c.drop k) (b.drop k) → pm_R 0 207 44 [.ref m, .int (Int32.ofInt (c.length : Int)), .int (Int32.ofInt (ix : Int)), .int (bI last), .int (Int32.ofInt (k : Int)), pm_U] [] σ (fun o σ' => o = .inl (some (.int (bI (better last c b)))) ∧ σ' = σ) := fun k k1 k2 k3 k4 k5 => by
      rw [k5]; exact s_M_isB_44 hm hc hx hix hlc hlb bc bb k1 k2 k3 k4
    have END : ∀ k, k ≤ c.length → k ≤ b.length → (∀ x y, c[k]? = some x → b[k]? = some y → x ≠ y) → better last c b = better last (c.drop k) (b.drop k) → ((Int32.ofInt (k : Int) = Int32.ofInt (c.length : Int) → ((Int32.ofInt (k : Int) = Int32.ofInt (b.length : Int) → (0 : Int32) &&& 1 = 0 ∧ ((.inl (some (.int (0 : Int32))) : pm_O) = .inl (some (.int (bI (better last c b)))) ∧ True)) ∧ (¬ Int32.ofInt (k : Int) = Int32.ofInt (b.length : Int) → pm_R 0 207 44 [.ref m, .int (Int32.ofInt (c.length : Int)), .int (Int32.ofInt (ix : Int)), .int (bI last), .int (Int32.ofInt (k : Int)), pm_U] [] σ (fun o σ' => o = .inl (some (.int (bI (better last c b)))) ∧ σ' = σ)))) ∧ (¬ Int32.ofInt (k : Int) = Int32.ofInt (c.length : Int) → pm_R 0 207 44 [.ref m, .int (Int32.ofInt (c.length : Int)), .int (Int32.ofInt (ix : Int)), .int (bI last), .int (Int32.ofInt (k : Int)), pm_U] [] σ (fun o σ' => o = .inl (some (.int (bI (better last c b)))) ∧ σ' = σ))) := fun k k1 k2 k4 k5 => by
      rw [oi_eq (by omega), oi_eq (by omega)]
      refine ⟨fun e => ⟨fun e2 => ⟨rfl, ?_, trivial⟩, fun e2 => R44 k k1 k2 (by omega) k4 k5⟩, fun e => R44 k k1 k2 (by omega) k4 k5⟩
      have h1 : c.drop k = [] := List.drop_eq_nil_of_le (by omega)
      have h2 : b.drop k = [] := List.drop_eq_nil_of_le (by omega)
      rw [k5, h1, h2, better_nn]; rfl
    have main : ∀ j k, k + j = min c.length b.length → better last c b = better last (c.drop k) (b.drop k) → pm_R 0 207 9 [.ref m, .int (Int32.ofInt (c.length : Int)), .int (Int32.ofInt (ix : Int)), .int (bI last), .int (Int32.ofInt (k : Int)), pm_U] [] σ (fun o σ' => o = .inl (some (.int (bI (better last c b)))) ∧ σ' = σ) := by
      intro j
      induction j with
      | zero =>
        intro k hk k5
        have k4 : ∀ x y, c[k]? = some x → b[k]? = some y → x ≠ y := fun x y h1 h2 => by
          have := (List.getElem?_eq_some_iff.mp h1).1
          have := (List.getElem?_eq_some_iff.mp h2).1
          omega
        refine w_M_isBetter_9 ⟨fun q => ?_, fun q => ?_⟩
        · simp only [hm.1, hm.f17, hm.t17, hm.l17, isr_ref, rv_ref, vx, wx, b1, true_and, forall_eq]
          exact END k (by omega) (by omega) k4 k5
        · rw [oi_le (by omega)] at q
          simp only [hm.1, hm.f17, hm.t17, hm.l17, isr_ref, rv_ref, vx, wx, b1, true_and, forall_eq]
          refine ⟨fun _ => END k (by omega) (by omega) k4 k5, fun q2 => ?_⟩
          rw [oi_le (by omega)] at q2; omega
      | succ j ih =>
        intro k hk k5
        have hr := List.getElem?_eq_getElem (show k < c.length by omega)
        generalize c[k] = x at hr
        have hr' := List.getElem?_eq_getElem (show k < b.length by omega)
        generalize b[k] = y at hr'
        have hx0 := bc x (List.mem_of_getElem? hr)
        have hy0 := bb y (List.mem_of_getElem? hr')
        have vk := vi (show k < 60 by omega) (by omega)
        have wk := vc (show k < 2000000 by omega)
        have vr := vi (show 60 * ix + k < 7920 by omega) (by omega)
        have wr := vc (show 60 * ix + k < 2000000 by omega)
        refine w_M_isBetter_9 ⟨fun q => ?_, fun q => ?_⟩
        · rw [oi_le (by omega)] at q; omega
        · simp only [hm.1, hm.f17, hm.t17, hm.l17, hm.f18, hm.t18, hm.l18, hm.f16, hm.t16, hm.l16, isr_ref, rv_ref, vx, wx, b1, oi_row60, vk, wk, vr, wr, hc k x hr, b2 k y hr', true_and, forall_eq]
          refine ⟨fun q2 => ?_, fun q2 => ⟨fun q3 => ?_, fun q3 => ?_⟩⟩
          · rw [oi_le (by omega)] at q2; omega
          · rw [oi_eq (by omega)] at q3
            rw [oi_s]
            refine ih (k + 1) (by omega) ?_
            rw [k5, drop_cons hr, drop_cons hr', better_cons, if_pos (by omega)]
          · rw [oi_eq (by omega)] at q3
            refine END k (by omega) (by omega) (fun x' y' h1 h2 => ?_) k5
            rw [hr] at h1; rw [hr'] at h2; cases h1; cases h2; omega
    exact main (min c.length b.length) 0 (by omega) rfl
