/-! ===== counting, and the ranges of a set ===== -/
def cnt (p : Nat → Bool) : Nat → Nat
  | 0 => 0
  | n + 1 => cnt p n + (if p n then 1 else 0)
theorem cnt_le (p : Nat → Bool) (n : Nat) : cnt p n ≤ n := by
  induction n with
  | zero => exact Nat.le_refl _
  | succ n ih => unfold cnt; split <;> omega
theorem i_s (k : Nat) : Int32.ofNat k + 1 = Int32.ofNat (k + 1) := by rw [Int32.ofNat_add]; rfl
theorem n_le {a b : Nat} (ha : a < 2147483648) (hb : b < 2147483648) : Int32.ofNat a ≤ Int32.ofNat b ↔ a ≤ b := Int32.ofNat_le_ofNat ha hb
theorem n_lt {a b : Nat} (ha : a < 2147483648) (hb : b < 2147483648) : Int32.ofNat a < Int32.ofNat b ↔ a < b := by
  rw [← Int32.not_le, n_le hb ha]; omega
theorem n_eq {a b : Nat} (ha : a < 2147483648) (hb : b < 2147483648) : Int32.ofNat a = Int32.ofNat b ↔ a = b := by
  constructor
  · intro h
    have h1 := (n_le ha hb).mp (by rw [h]; exact Int32.le_refl _)
    have h2 := (n_le hb ha).mp (by rw [h]; exact Int32.le_refl _)
    omega
  · rintro rfl; rfl
/-- where a range begins -/
def rs (lo hi : Int64) (s : Nat) : Bool := sy lo hi s && (s == 0 || !sy lo hi (s - 1))
theorem s_isRangeStart {σ : pm_H} {g : Nat} {lo hi : Int64} (h : aSy σ g lo hi) {s : Nat} (hs : s < 100) : cI 1 92 [.ref g, .int (Int32.ofNat s)] σ (bI (rs lo hi s)) := by
  refine w_Sy_isRangeStart_0 ⟨h.1, (s_has h hs).use (Nat.le_refl _) ⟨fun e => ?_, fun e => ⟨h.1, ?_⟩⟩⟩
  · have e := bI_0.mp e
    unfold rs
    rw [e]
    exact ⟨rfl, rfl, rfl⟩
  · have e : sy lo hi s = true := by cases q : sy lo hi s with
      | true => rfl
      | false => rw [q] at e; exact absurd rfl e
    by_cases h0 : s = 0
    · subst h0
      refine (s_has_out (by left; decide)).use (Nat.le_refl _) ⟨fun _ => ⟨rfl, ?_, rfl⟩, fun q => absurd rfl q⟩
      unfold rs
      rw [e]; rfl
    · obtain ⟨r, rfl⟩ := Nat.exists_eq_succ_of_ne_zero h0
      have er : Int32.ofNat (r + 1) - 1 = Int32.ofNat r := by rw [← i_s]; exact Int32.add_sub_cancel _ _
      rw [Nat.succ_eq_add_one] at *
      rw [er]
      refine (s_has h (by omega)).use (Nat.le_refl _) ?_
      unfold rs
      rw [e, Nat.add_sub_cancel]
      cases sy lo hi r
      · exact ⟨fun _ => ⟨rfl, rfl, rfl⟩, fun q => absurd rfl q⟩
      · exact ⟨fun q => absurd q (by decide), fun _ => ⟨rfl, rfl, rfl⟩⟩
theorem s_rangeCount_l {σ : pm_H} {g : Nat} {lo hi : Int64} (h : aSy σ g lo hi) : ∀ (j k : Nat), k + j = 100 → pm_R 2 89 4 [.ref g, .int (Int32.ofNat (cnt (rs lo hi) k)), .int (Int32.ofNat k)] [] σ (fun o σ' => o = .inl (some (.int (Int32.ofNat (cnt (rs lo hi) 100)))) ∧ σ' = σ) := by
  intro j
  induction j with
  | zero =>
    intro k hk
    have hk : k = 100 := by omega
    subst hk
    exact w_Sy_rangeCount_4 ⟨fun _ => ⟨rfl, rfl⟩, fun q => absurd (Int32.le_refl _) q⟩
  | succ j ih =>
    intro k hk
    have h9 : ¬ (100 : Int32) ≤ Int32.ofNat k := fun q => by
      have := (n_le (a := 100) (b := k) (by omega) (by omega)).mp q
      omega
    refine w_Sy_rangeCount_4 ⟨fun q => absurd q h9, fun _ => ⟨h.1, (s_isRangeStart h (s := k) (by omega)).use (Nat.le_refl _) ⟨fun e => ?_, fun e => ?_⟩⟩⟩
    · have r := ih (k + 1) (by omega)
      rw [cnt, bI_0.mp e] at r
      rw [i_s]
      exact r
    · have e : rs lo hi k = true := by cases q : rs lo hi k with
        | true => rfl
        | false => rw [q] at e; exact absurd rfl e
      have r := ih (k + 1) (by omega)
      rw [cnt, e] at r
      rw [i_s, i_s]
      exact r
theorem s_rangeCount {σ : pm_H} {g : Nat} {lo hi : Int64} (h : aSy σ g lo hi) : cI 2 89 [.ref g] σ (Int32.ofNat (cnt (rs lo hi) 100)) :=
  w_Sy_rangeCount_0 (s_rangeCount_l h 100 0 rfl)
