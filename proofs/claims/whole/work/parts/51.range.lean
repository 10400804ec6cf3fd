/-! ===== counting, and the ranges of a set ===== -/
def cnt (p : Nat → Bool) : Nat → Nat
  | 0 => 0
  | n + 1 => cnt p n + (if p n then 1 else 0)
theorem cnt_le (p : Nat → Bool) (n : Nat) : cnt p n ≤ n := by
  induction n with
  | zero => exact Nat.le_refl _
  | succ n ih => unfold cnt; split <;> omega
theorem i_s (k : Nat) : Int32.ofNat k + 1 = Int32.ofNat (k + 1) := by rw [Int32.ofNat_add]; rfl
theorem n_le {a b : Nat} (ha : a < 2147483648) (hb : b < 2147483648) : Int32.ofNat a ≤ Int32.ofNat b ↔ a ≤ b := Int32.ofNat_le_ofNat ha hb
theorem n_lt {a b : Nat} (ha : a < 2147483648) (hb : b < 2147483648) : Int32.ofNat a < Int32.ofNat b ↔ a < b := by
  rw [← Int32.not_le, n_le hb ha]; omega
theorem n_eq {a b : Nat} (ha : a < 2147483648) (hb : b < 2147483648) : Int32.ofNat a = Int32.ofNat b ↔ a = b := by
  constructor
  · intro h
    have h1 := (n_le ha hb).mp (by rw [h]; exact Int32.le_refl _)
    have h2 := (n_le hb ha).mp (by rw [h]; exact Int32.le_refl _)
    omega
  · rintro rfl; rfl
/-- where a range begins -/
def rs (lo hi : Int64) (s : Nat) : Bool := sy lo hi s && (s == 0 || !sy lo hi (s - 1))
theorem s_isRangeStart {σ : pm_H} {g : Nat} {lo hi : Int64} (h : aSy σ g lo hi) {s : Nat} (hs : s < 100) : cI 1 92 [.ref g, .int (Int32.ofNat s)] σ (bI (rs lo hi s)) := by
  refine w_Sy_isRangeStart_0 ⟨h.1, (s_has h hs).use (Nat.le_refl _) ⟨fun e => ?_, fun e => ⟨h.1, ?_⟩⟩⟩
  · have e := bI_0.mp e
    unfold rs
    rw [e]
    exact ⟨rfl, rfl, rfl⟩
  · have e : sy lo hi s = true := by cases q : sy lo hi s with
      | true => rfl
      | false => rw [q] at e; exact absurd rfl e
    by_cases h0 : s = 0
    · subst h0
      refine (s_has_out (by left; decide)).use (Nat.le_refl _) ⟨fun _ => ⟨rfl, ?_, rfl⟩, fun q => absurd rfl q⟩
      unfold rs
      rw [e]; rfl
    · obtain ⟨r, rfl⟩ := Nat.exists_eq_succ_of_ne_zero h0
      have er : Int32.ofNat (r + 1) - 1 = Int32.ofNat r := by rw [← i_s]; exact Int32.add_sub_cancel _ _
      rw [Nat.succ_eq_add_one] at *
      rw [er]
      refine (s_has h (by omega)).use (Nat.le_refl _) ?_
      unfold rs
      rw [e, Nat.add_sub_cancel]
      cases sy lo hi r
      · exact ⟨fun _ => ⟨rfl, rfl, rfl⟩, fun q => absurd rfl q⟩
      · exact ⟨fun q => absurd q (by decide), fun _ => ⟨rfl, rfl, rfl⟩⟩
theorem s_rangeCount_l {σ : pm_H} {g : Nat} {lo hi : Int64} (h : aSy σ g lo hi) : ∀ (j k : Nat), k + j = 100 → pm_R 2 89 4 [.ref g, .int (Int32.ofNat (cnt (rs lo hi) k)), .int (Int32.ofNat k)] [] σ (fun o σ' => o = .inl (some (.int (Int32.ofNat (cnt (rs lo hi) 100)))) ∧ σ' = σ) := by
  intro j
  induction j with
  | zero =>
    intro k hk
    have hk : k = 100 := by omega
    subst hk
    exact w_Sy_rangeCount_4 ⟨fun _ => ⟨rfl, rfl⟩, fun q => absurd (Int32.le_refl _) q⟩
  | succ j ih =>
    intro k hk
    have h9 : ¬ (100 : Int32) ≤ Int32.ofNat k := fun q => by
      have := (n_le (a := 100) (b := k) (by omega) (by omega)).mp q
      omega
    refine w_Sy_rangeCount_4 ⟨fun q => absurd q h9, fun _ => ⟨h.1, (s_isRangeStart h (s := k) (by omega)).use (Nat.le_refl _) ⟨fun e => ?_, fun e => ?_⟩⟩⟩
    · have r := ih (k + 1) (by omega)
      rw [cnt, bI_0.mp e] at r
      rw [i_s]
      exact r
    · have e : rs lo hi k = true := by cases q : rs lo hi k with
        | true => rfl
        | false => rw [q] at e; exact absurd rfl e
      have r := ih (k + 1) (by omega)
      rw [cnt, e] at r
      rw [i_s, i_s]
      exact r
theorem s_rangeCount {σ : pm_H} {g : Nat} {lo hi : Int64} (h : aSy σ g lo hi) : cI 2 89 [.ref g] σ (Int32.ofNat (cnt (rs lo hi) 100)) :=
  w_Sy_rangeCount_0 (s_rangeCount_l h 100 0 rfl)
theorem bI_1 {b : Bool} : ¬ bI b = 0 ↔ b = true := by cases b <;> decide
theorem cnt_mono (p : Nat → Bool) {a b : Nat} (h : a ≤ b) : cnt p a ≤ cnt p b := by
  induction b with
  | zero => have : a = 0 := by omega
            subst this; exact Nat.le_refl _
  | succ b ih =>
    by_cases e : a = b + 1
    · subst e; exact Nat.le_refl _
    · have := ih (by omega)
      rw [cnt]; split <;> omega
theorem cnt_lt (p : Nat → Bool) {a b : Nat} (h : a < b) (hp : p a = true) : cnt p a < cnt p b := by
  have := cnt_mono p (show a + 1 ≤ b from h)
  rw [cnt, hp] at this
  simp at this
  omega
theorem s_rangeStart_l {σ : pm_H} {g : Nat} {lo hi : Int64} (h : aSy σ g lo hi) {s : Nat} (hs : s < 100) (hr : rs lo hi s = true) : ∀ (j k : Nat), k + j = s → pm_R 2 90 4 [.ref g, .int (Int32.ofNat (cnt (rs lo hi) s)), .int (Int32.ofNat (cnt (rs lo hi) k)), .int (Int32.ofNat k)] [] σ (fun o σ' => o = .inl (some (.int (Int32.ofNat s))) ∧ σ' = σ) := by
  have hb : ∀ t : Nat, t ≤ 100 → cnt (rs lo hi) t < 2147483648 := fun t ht => by
    have := cnt_le (rs lo hi) t
    omega
  intro j
  induction j with
  | zero =>
    intro k hk
    have hk : k = s := by omega
    subst hk
    have h9 : ¬ (100 : Int32) ≤ Int32.ofNat k := fun q => by
      have := (n_le (a := 100) (b := k) (by omega) (by omega)).mp q
      omega
    refine w_Sy_rangeStart_4 ⟨fun q => absurd q h9, fun _ => ⟨h.1, (s_isRangeStart h hs).use (Nat.le_refl _) ⟨fun e => ?_, fun e => ⟨fun _ => ⟨rfl, rfl⟩, fun q => absurd rfl q⟩⟩⟩⟩
    rw [bI_0, hr] at e
    cases e
  | succ j ih =>
    intro k hk
    have h9 : ¬ (100 : Int32) ≤ Int32.ofNat k := fun q => by
      have := (n_le (a := 100) (b := k) (by omega) (by omega)).mp q
      omega
    have r := ih (k + 1) (by omega)
    rw [cnt] at r
    refine w_Sy_rangeStart_4 ⟨fun q => absurd q h9, fun _ => ⟨h.1, (s_isRangeStart h (s := k) (by omega)).use (Nat.le_refl _) ⟨fun e => ?_, fun e => ⟨fun q => ?_, fun q => ?_⟩⟩⟩⟩
    · rw [bI_0.mp e] at r
      rw [i_s]
      exact r
    · have e := bI_1.mp e
      have q := (n_eq (hb k (by omega)) (hb s (by omega))).mp q
      have := cnt_lt (rs lo hi) (show k < s by omega) e
      omega
    · rw [bI_1.mp e] at r
      rw [i_s, i_s]
      exact r
theorem s_rangeStart {σ : pm_H} {g : Nat} {lo hi : Int64} (h : aSy σ g lo hi) {s : Nat} (hs : s < 100) (hr : rs lo hi s = true) : cI 2 90 [.ref g, .int (Int32.ofNat (cnt (rs lo hi) s))] σ (Int32.ofNat s) :=
  w_Sy_rangeStart_0 (s_rangeStart_l h hs hr s 0 (by omega))
theorem s_rangeEnd_l {σ : pm_H} {g : Nat} {lo hi : Int64} (h : aSy σ g lo hi) {e : Nat} (he : e < 100) (hf : e = 99 ∨ sy lo hi (e + 1) = false) : ∀ (j k : Nat), k + j = e → (∀ t, k < t → t ≤ e → sy lo hi t = true) → pm_R 1 91 2 [.ref g, pm_U, .int (Int32.ofNat k)] [] σ (fun o σ' => o = .inl (some (.int (Int32.ofNat e))) ∧ σ' = σ) := by
  intro j
  induction j with
  | zero =>
    intro k hk ht
    have hk : k = e := by omega
    subst hk
    refine w_Sy_rangeEnd_2 ⟨fun _ => ⟨rfl, rfl⟩, fun _ => ⟨h.1, ?_⟩⟩
    rw [i_s]
    by_cases e9 : k = 99
    · subst e9
      exact (s_has_out (by right; decide)).use (Nat.le_refl _) ⟨fun _ => ⟨rfl, rfl⟩, fun q => absurd rfl q⟩
    · refine (s_has h (by omega)).use (Nat.le_refl _) ⟨fun _ => ⟨rfl, rfl⟩, fun q => ?_⟩
      rcases hf with hf | hf
      · exact absurd hf e9
      · rw [hf] at q; exact absurd rfl q
  | succ j ih =>
    intro k hk ht
    have h9 : ¬ (100 : Int32) ≤ Int32.ofNat k := fun q => by
      have := (n_le (a := 100) (b := k) (by omega) (by omega)).mp q
      omega
    refine w_Sy_rangeEnd_2 ⟨fun q => absurd q h9, fun _ => ⟨h.1, ?_⟩⟩
    rw [i_s]
    refine (s_has h (by omega)).use (Nat.le_refl _) ⟨fun q => ?_, fun q => ?_⟩
    · rw [bI_0, ht (k + 1) (by omega) (by omega)] at q
      cases q
    · exact ih (k + 1) (by omega) (fun t h1 h2 => ht t (by omega) h2)
theorem s_rangeEnd {σ : pm_H} {g : Nat} {lo hi : Int64} (h : aSy σ g lo hi) {k e : Nat} (hke : k ≤ e) (he : e < 100) (hf : e = 99 ∨ sy lo hi (e + 1) = false) (ht : ∀ t, k < t → t ≤ e → sy lo hi t = true) : cI 1 91 [.ref g, .int (Int32.ofNat k)] σ (Int32.ofNat e) :=
  w_Sy_rangeEnd_0 (s_rangeEnd_l h he hf (e - k) k (by omega) ht)
