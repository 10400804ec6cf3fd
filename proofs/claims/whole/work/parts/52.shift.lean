/-! ===== shifts of a set ===== -/
theorem bt_sl {a : Nat} (ha : a < 64) (x : Int64) {j : Nat} (hj : j < 64) : bt (x <<< ((Int32.ofNat a).toInt64 &&& 63)) j = (decide (a ≤ j) && bt x (j - a)) := by
  have e : ∀ a : Nat, a < 64 → (((Int32.ofNat a).toInt64 &&& 63).toBitVec.smod 64).toNat = a := by decide +kernel
  have e := e a ha
  generalize ((Int32.ofNat a).toInt64 &&& 63) = w at *
  unfold bt
  have e3 : (x <<< w).toBitVec = x.toBitVec <<< (w.toBitVec.smod 64).toNat := by
    rw [Int64.toBitVec_shiftLeft, BitVec.shiftLeft_eq']
  rw [e3, e, BitVec.getLsbD_shiftLeft]
  by_cases h : j < a
  · have h' : ¬ a ≤ j := by omega
    simp [h, hj, h']
  · simp [h, hj, Nat.le_of_not_lt h]
theorem bt_36 : ∀ j : Nat, j < 64 → bt 68719476735 j = decide (j < 36) := by decide +kernel
theorem n_sub {a b : Nat} (h : b ≤ a) : Int32.ofNat a - Int32.ofNat b = Int32.ofNat (a - b) := by
  have e : a = (a - b) + b := by omega
  rw [show Int32.ofNat a = Int32.ofNat (a - b) + Int32.ofNat b by rw [← Int32.ofNat_add, ← e]]
  exact Int32.add_sub_cancel _ _
theorem sy_ext {lo hi lo' hi' : Int64} (h1 : ∀ j, 36 ≤ j → bt hi j = false) (h2 : ∀ j, 36 ≤ j → bt hi' j = false) (h : ∀ s, s < 100 → sy lo hi s = sy lo' hi' s) : lo = lo' ∧ hi = hi' := by
  constructor
  · refine bt_ext (fun j hj => ?_)
    have := h j (by omega)
    unfold sy at this
    rwa [if_pos hj, if_pos hj] at this
  · refine bt_ext (fun j hj => ?_)
    by_cases e : j < 36
    · have := h (j + 64) (by omega)
      unfold sy at this
      rwa [if_neg (by omega), if_neg (by omega), Nat.add_sub_cancel] at this
    · rw [h1 j (by omega), h2 j (by omega)]
theorem s_shiftUp {σ : pm_H} {g : Nat} {lo hi : Int64} (h : aSy σ g lo hi) {d : Nat} (h0 : 0 < d) (hd : d < 128) : cV 0 81 [.ref g, .int (Int32.ofNat d)] σ (fun σ' => ∃ lo' hi', σ' = pm_sF (pm_sF σ 801 g (.long hi')) 800 g (.long lo') ∧ ∀ s, s < 100 → sy lo' hi' s = (decide (d ≤ s) && sy lo hi (s - d))) := by
  obtain ⟨h1, h2, h3⟩ := h
  refine w_Sy_shiftUp_0 ⟨fun q => ?_, fun q => ?_⟩
  · have q : d < 64 := (n_lt (b := 64) (by omega) (by omega)).mp q
    have e64 : (64 : Int32) - Int32.ofNat d = Int32.ofNat (64 - d) := n_sub (a := 64) (by omega)
    simp only [h1, h2, h3, jv_long, t_sF, F_sF, forall_eq, true_and, Nat.reduceEqDiff, false_and, if_false]
    refine ⟨_, _, rfl, fun s hs => ?_⟩
    rw [e64]
    unfold sy
    by_cases c1 : s < 64
    · rw [if_pos c1, bt_sl q _ c1, if_pos (by omega)]
    · rw [if_neg c1, bt_or, bt_sl q _ (by omega), bt_us (by omega)]
      by_cases c2 : s - d < 64
      · rw [if_pos c2, show 64 - d + (s - 64) = s - d by omega]
        have c3 : ¬ d ≤ s - 64 := by omega
        have c4 : d ≤ s := by omega
        simp [c3, c4]
      · rw [if_neg c2, bt_ge lo (show 64 ≤ 64 - d + (s - 64) by omega), show s - 64 - d = s - d - 64 by omega]
        have c3 : d ≤ s - 64 := by omega
        have c4 : d ≤ s := by omega
        simp [c3, c4]
  · have q : ¬ d < 64 := fun r => q ((n_lt (b := 64) (by omega) (by omega)).mpr r)
    have e64 : Int32.ofNat d - (64 : Int32) = Int32.ofNat (d - 64) := n_sub (b := 64) (by omega)
    simp only [h1, h2, h3, jv_long, t_sF, F_sF, forall_eq, true_and, Nat.reduceEqDiff, false_and, if_false]
    refine ⟨_, _, rfl, fun s hs => ?_⟩
    rw [e64]
    unfold sy
    by_cases c1 : s < 64
    · rw [if_pos c1, bt_zero]
      have c4 : ¬ d ≤ s := by omega
      simp [c4]
    · rw [if_neg c1, bt_sl (by omega) _ (by omega)]
      by_cases c4 : d ≤ s
      · rw [if_pos (by omega), show s - 64 - (d - 64) = s - d by omega]
        have c3 : d - 64 ≤ s - 64 := by omega
        simp [c3, c4]
      · have c3 : ¬ d - 64 ≤ s - 64 := by omega
        simp [c3, c4]
theorem s_shiftDown {σ : pm_H} {g : Nat} {lo hi : Int64} (h : aSy σ g lo hi) (hc : ∀ j, 36 ≤ j → bt hi j = false) {d : Nat} (h0 : 0 < d) (hd : d < 128) : cV 0 82 [.ref g, .int (Int32.ofNat d)] σ (fun σ' => ∃ lo' hi', σ' = uSy σ g lo' hi' ∧ ∀ s, s < 100 → sy lo' hi' s = (decide (s + d < 100) && sy lo hi (s + d))) := by
  obtain ⟨h1, h2, h3⟩ := h
  refine w_Sy_shiftDown_0 ⟨fun q => ?_, fun q => ?_⟩
  · have q : d < 64 := (n_lt (b := 64) (by omega) (by omega)).mp q
    have e64 : (64 : Int32) - Int32.ofNat d = Int32.ofNat (64 - d) := n_sub (a := 64) (by omega)
    simp only [h1, h2, h3, jv_long, t_sF, F_sF, forall_eq, true_and, Nat.reduceEqDiff, false_and, if_false, uSy]
    refine ⟨_, _, rfl, fun s hs => ?_⟩
    rw [e64]
    unfold sy
    by_cases c1 : s < 64
    · rw [if_pos c1, bt_or, bt_us q, bt_sl (by omega) _ c1]
      by_cases c2 : s + d < 64
      · rw [if_pos c2, show d + s = s + d by omega]
        have c3 : ¬ 64 - d ≤ s := by omega
        have c4 : s + d < 100 := by omega
        simp [c3, c4]
      · rw [if_neg c2, bt_ge lo (show 64 ≤ d + s by omega), show s - (64 - d) = s + d - 64 by omega]
        have c3 : 64 - d ≤ s := by omega
        by_cases c4 : s + d < 100
        · simp [c3, c4]
        · rw [hc _ (by omega)]; simp
    · rw [if_neg c1, bt_us q, if_neg (by omega), show d + (s - 64) = s + d - 64 by omega]
      by_cases c4 : s + d < 100
      · simp [c4]
      · rw [hc _ (by omega)]; simp
  · have q : ¬ d < 64 := fun r => q ((n_lt (b := 64) (by omega) (by omega)).mpr r)
    have e64 : Int32.ofNat d - (64 : Int32) = Int32.ofNat (d - 64) := n_sub (b := 64) (by omega)
    simp only [h1, h2, h3, jv_long, t_sF, F_sF, forall_eq, true_and, Nat.reduceEqDiff, false_and, if_false, uSy]
    refine ⟨_, _, rfl, fun s hs => ?_⟩
    rw [e64]
    unfold sy
    by_cases c1 : s < 64
    · rw [if_pos c1, bt_us (by omega), if_neg (by omega), show d - 64 + s = s + d - 64 by omega]
      by_cases c4 : s + d < 100
      · simp [c4]
      · rw [hc _ (by omega)]; simp
    · rw [if_neg c1, bt_zero]
      have c4 : ¬ s + d < 100 := by omega
      simp [c4]
/-- what the shift by a distance makes of a set, which has no bit beyond the symbols -/
def shOf (lo hi : Int64) (D : Int) (lo' hi' : Int64) : Prop := (∀ j, 36 ≤ j → bt hi' j = false) ∧ ∀ s : Nat, s < 100 → sy lo' hi' s = (decide (0 ≤ (s : Int) - D ∧ (s : Int) - D < 100) && sy lo hi ((s : Int) - D).toNat)
