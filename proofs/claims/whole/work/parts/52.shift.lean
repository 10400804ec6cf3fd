/-! ===== shifts of a set ===== -/
theorem bt_sl {a : Nat} (ha : a < 64) (x : Int64) {j : Nat} (hj : j < 64) : bt (x <<< ((Int32.ofNat a).toInt64 &&& 63)) j = (decide (a ≤ j) && bt x (j - a)) := by
  have e : ∀ a : Nat, a < 64 → (((Int32.ofNat a).toInt64 &&& 63).toBitVec.smod 64).toNat = a := by decide +kernel
  have e := e a ha
  generalize ((Int32.ofNat a).toInt64 &&& 63) = w at *
  unfold bt
  have e3 : (x <<< w).toBitVec = x.toBitVec <<< (w.toBitVec.smod 64).toNat := by
    rw [Int64.toBitVec_shiftLeft, BitVec.shiftLeft_eq']
  rw [e3, e, BitVec.getLsbD_shiftLeft]
  by_cases h : j < a
  · have h' : ¬ a ≤ j := by omega
    simp [h, hj, h']
  · simp [h, hj, Nat.le_of_not_lt h]
theorem bt_36 : ∀ j : Nat, j < 64 → bt 68719476735 j = decide (j < 36) := by decide +kernel
theorem n_sub {a b : Nat} (h : b ≤ a) : Int32.ofNat a - Int32.ofNat b = Int32.ofNat (a - b) := by
  have e : a = (a - b) + b := by omega
  rw [show Int32.ofNat a = Int32.ofNat (a - b) + Int32.ofNat b by rw [← Int32.ofNat_add, ← e]]
  exact Int32.add_sub_cancel _ _
theorem sy_ext {lo hi lo' hi' : Int64} (h1 : ∀ j, 36 ≤ j → bt hi j = false) (h2 : ∀ j, 36 ≤ j → bt hi' j = false) (h : ∀ s, s < 100 → sy lo hi s = sy lo' hi' s) : lo = lo' ∧ hi = hi' := by
  constructor
  · refine bt_ext (fun j hj => ?_)
    have := h j (by omega)
    unfold sy at this
    rwa [if_pos hj, if_pos hj] at this
  · refine bt_ext (fun j hj => ?_)
    by_cases e : j < 36
    · have := h (j + 64) (by omega)
      unfold sy at this
      rwa [if_neg (by omega), if_neg (by omega), Nat.add_sub_cancel] at this
    · rw [h1 j (by omega), h2 j (by omega)]
theorem s_shiftUp {σ : pm_H} {g : Nat} {lo hi : Int64} (h : aSy σ g lo hi) {d : Nat} (h0 : 0 < d) (hd : d < 128) : cV 0 81 [.ref g, .int (Int32.ofNat d)] σ (fun σ' => ∃ lo' hi', σ' = pm_sF (pm_sF σ 801 g (.long hi')) 800 g (.long lo') ∧ ∀ s, s < 100 → sy lo' hi' s = (decide (d ≤ s) && sy lo hi (s - d))) := by
  obtain ⟨h1, h2, h3⟩ := h
  refine w_Sy_shiftUp_0 ⟨fun q => ?_, fun q => ?_⟩
  · have q : d < 64 := (n_lt (b := 64) (by omega) (by omega)).mp q
    have e64 : (64 : Int32) - Int32.ofNat d = Int32.ofNat (64 - d) := n_sub (a := 64) (by omega)
    simp only [h1, h2, h3, jv_long, t_sF, F_sF, forall_eq, true_and, Nat.reduceEqDiff, false_and, if_false]
    refine ⟨_, _, rfl, fun s hs => ?_⟩
    rw [e64]
    unfold sy
    by_cases c1 : s < 64
    · rw [if_pos c1, bt_sl q _ c1, if_pos (by omega)]
    · rw [if_neg c1, bt_or, bt_sl q _ (by omega), bt_us (by omega)]
      by_cases c2 : s - d < 64
      · rw [if_pos c2, show 64 - d + (s - 64) = s - d by omega]
        have c3 : ¬ d ≤ s - 64 := by omega
        have c4 : d ≤ s := by omega
        simp [c3, c4]
      · rw [if_neg c2, bt_ge lo (show 64 ≤ 64 - d + (s - 64) by omega), show s - 64 - d = s - d - 64 by omega]
        have c3 : d ≤ s - 64 := by omega
        have c4 : d ≤ s := by omega
        simp [c3, c4]
  · have q : ¬ d < 64 := fun r => q ((n_lt (b := 64) (by omega) (by omega)).mpr r)
    have e64 : Int32.ofNat d - (64 : Int32) = Int32.ofNat (d - 64) := n_sub (b := 64) (by omega)
    simp only [h1, h2, h3, jv_long, t_sF, F_sF, forall_eq, true_and, Nat.reduceEqDiff, false_and, if_false]
    refine ⟨_, _, rfl, fun s hs => ?_⟩
    rw [e64]
    unfold sy
    by_cases c1 : s < 64
    · rw [if_pos c1, bt_zero]
      have c4 : ¬ d ≤ s := by omega
      simp [c4]
    · rw [if_neg c1, bt_sl (by omega) _ (by omega)]
      by_cases c4 : d ≤ s
      · rw [if_pos (by omega), show s - 64 - (d - 64) = s - d by omega]
        have c3 : d - 64 ≤ s - 64 := by omega
        simp [c3, c4]
      · have c3 : ¬ d - 64 ≤ s - 64 := by omega
        simp [c3, c4]
theorem s_shiftDown {σ : pm_H} {g : Nat} {lo hi : Int64} (h : aSy σ g lo hi) (hc : ∀ j, 36 ≤ j → bt hi j = false) {d : Nat} (h0 : 0 < d) (hd : d < 128) : cV 0 82 [.ref g, .int (Int32.ofNat d)] σ (fun σ' => ∃ lo' hi', σ' = uSy σ g lo' hi' ∧ ∀ s, s < 100 → sy lo' hi' s = (decide (s + d < 100) && sy lo hi (s + d))) := by
  obtain ⟨h1, h2, h3⟩ := h
  refine w_Sy_shiftDown_0 ⟨fun q => ?_, fun q => ?_⟩
  · have q : d < 64 := (n_lt (b := 64) (by omega) (by omega)).mp q
    have e64 : (64 : Int32) - Int32.ofNat d = Int32.ofNat (64 - d) := n_sub (a := 64) (by omega)
    simp only [h1, h2, h3, jv_long, t_sF, F_sF, forall_eq, true_and, Nat.reduceEqDiff, false_and, if_false, uSy]
    refine ⟨_, _, rfl, fun s hs => ?_⟩
    rw [e64]
    unfold sy
    by_cases c1 : s < 64
    · rw [if_pos c1, bt_or, bt_us q, bt_sl (by omega) _ c1]
      by_cases c2 : s + d < 64
      · rw [if_pos c2, show d + s = s + d by omega]
        have c3 : ¬ 64 - d ≤ s := by omega
        have c4 : s + d < 100 := by omega
        simp [c3, c4]
      · rw [if_neg c2, bt_ge lo (show 64 ≤ d + s by omega), show s - (64 - d) = s + d - 64 by omega]
        have c3 : 64 - d ≤ s := by omega
        by_cases c4 : s + d < 100
        · simp [c3, c4]
        · rw [hc _ (by omega)]; simp
    · rw [if_neg c1, bt_us q, if_neg (by omega), show d + (s - 64) = s + d - 64 by omega]
      by_cases c4 : s + d < 100
      · simp [c4]
      · rw [hc _ (by omega)]; simp
  · have q : ¬ d < 64 := fun r => q ((n_lt (b := 64) (by omega) (by omega)).mpr r)
    have e64 : Int32.ofNat d - (64 : Int32) = Int32.ofNat (d - 64) := n_sub (b := 64) (by omega)
    simp only [h1, h2, h3, jv_long, t_sF, F_sF, forall_eq, true_and, Nat.reduceEqDiff, false_and, if_false, uSy]
    refine ⟨_, _, rfl, fun s hs => ?_⟩
    rw [e64]
    unfold sy
    by_cases c1 : s < 64
    · rw [if_pos c1, bt_us (by omega), if_neg (by omega), show d - 64 + s = s + d - 64 by omega]
      by_cases c4 : s + d < 100
      · simp [c4]
      · rw [hc _ (by omega)]; simp
    · rw [if_neg c1, bt_zero]
      have c4 : ¬ s + d < 100 := by omega
      simp [c4]
/-- what the shift by a distance makes of a set, which has no bit beyond the symbols -/
def shOf (lo hi : Int64) (D : Int) (lo' hi' : Int64) : Prop := (∀ j, 36 ≤ j → bt hi' j = false) ∧ ∀ s : Nat, s < 100 → sy lo' hi' s = (decide (0 ≤ (s : Int) - D ∧ (s : Int) - D < 100) && sy lo hi ((s : Int) - D).toNat)
theorem H_ext {σ τ : pm_H} (h1 : σ.1 = τ.1) (h2 : σ.2.1 = τ.2.1) (h3 : ∀ f a, pm_F σ f a = pm_F τ f a) (h4 : ∀ a j, pm_A σ a j = pm_A τ a j) : σ = τ := by
  obtain ⟨s1, s2, s3, s4⟩ := σ
  obtain ⟨t1, t2, t3, t4⟩ := τ
  have e3 : s3 = t3 := funext fun f => funext fun a => h3 f a
  have e4 : s4 = t4 := funext fun a => funext fun j => h4 a j
  dsimp only at h1 h2
  subst h1 h2 e3 e4
  rfl
theorem uSy_1 {σ : pm_H} {g : Nat} {v : Value} {a b : Int64} : pm_sF (pm_sF (pm_sF σ 801 g v) 800 g (.long a)) 801 g (.long b) = uSy σ g a b := by
  refine H_ext rfl rfl (fun f c => ?_) (fun _ _ => rfl)
  simp only [uSy, F_sF]
  by_cases e1 : f = 801 ∧ c = g
  · simp [e1]
  · simp [e1]
theorem uSy_2 {σ : pm_H} {g : Nat} {a b c : Int64} : pm_sF (uSy σ g a c) 801 g (.long b) = uSy σ g a b := by
  refine H_ext rfl rfl (fun f c => ?_) (fun _ _ => rfl)
  simp only [uSy, F_sF]
  by_cases e1 : f = 801 ∧ c = g
  · simp [e1]
  · simp [e1]
theorem uSy_3 {σ : pm_H} {g : Nat} {a b : Int64} (h : pm_F σ 800 g = .long a) : pm_sF σ 801 g (.long b) = uSy σ g a b := by
  refine H_ext rfl rfl (fun f c => ?_) (fun _ _ => rfl)
  simp only [uSy, F_sF]
  by_cases e1 : f = 800 ∧ c = g
  · obtain ⟨rfl, rfl⟩ := e1
    simp [h]
  · simp [e1]
theorem sy_m36 {lo hi : Int64} {s : Nat} (hs : s < 100) : sy lo (hi &&& 68719476735) s = sy lo hi s := by
  unfold sy
  split
  · rfl
  · rw [bt_and, bt_36 _ (by omega)]
    have : s - 64 < 36 := by omega
    simp [this]
theorem bt_m36 {hi : Int64} (j : Nat) (hj : 36 ≤ j) : bt (hi &&& 68719476735) j = false := by
  by_cases h : j < 64
  · rw [bt_and, bt_36 _ h]
    have : ¬ j < 36 := by omega
    simp [this]
  · exact bt_ge _ (by omega)
theorem s_shift {σ : pm_H} {g : Nat} {lo hi : Int64} (h : aSy σ g lo hi) (hc : ∀ j, 36 ≤ j → bt hi j = false) {x : Int32} (hx : -128 < x.toInt ∧ x.toInt < 128) : cV 1 80 [.ref g, .int x] σ (fun σ' => ∃ lo' hi', σ' = uSy σ g lo' hi' ∧ shOf lo hi x.toInt lo' hi') := by
  have e0 : (0 : Int32).toInt = 0 := rfl
  refine w_Sy_shift_0 ⟨fun q1 => ⟨fun q2 => ?_, fun q2 => ⟨h.1, ?_⟩⟩, fun q1 => ⟨h.1, ?_⟩⟩
  · rw [Int32.le_iff_toInt_le, e0] at q1 q2
    have hz : x.toInt = 0 := by omega
    refine ⟨h.1, fun z ez => ⟨h.1, fun σ2 e2 => ⟨rfl, lo, z &&& 68719476735, ?_, bt_m36, fun s hs => ?_⟩⟩⟩
    · rw [e2]; exact uSy_3 h.2.1
    · rw [h.2.2, jv_long] at ez
      subst ez
      rw [sy_m36 hs, hz]
      have : (0 : Int) ≤ (s : Int) - 0 ∧ (s : Int) - 0 < 100 := by omega
      rw [decide_eq_true this, Bool.true_and, show ((s : Int) - 0).toNat = s by omega]
  · rw [Int32.le_iff_toInt_le, e0] at q2
    have en : (-x).toInt = -x.toInt := by
      rw [Int32.toInt_neg]
      exact b32 (by omega)
    have ex : -x = Int32.ofNat (-x.toInt).toNat := by rw [← en]; exact i_nat (by omega)
    rw [ex]
    refine (s_shiftDown h hc (d := (-x.toInt).toNat) (by omega) (by omega)).use (Nat.le_refl _) ?_
    rintro σ1 ⟨lo', hi', rfl, hs1⟩
    refine ⟨h.1, fun z ez => ⟨h.1, fun σ2 e2 => ⟨rfl, lo', z &&& 68719476735, ?_, bt_m36, fun s hs => ?_⟩⟩⟩
    · rw [e2]; exact uSy_2
    · rw [(aSy_u h.1).2.2, jv_long] at ez
      subst ez
      rw [sy_m36 hs, hs1 s hs, show ((s : Int) - x.toInt).toNat = s + (-x.toInt).toNat by omega]
      congr 1
      rw [decide_eq_decide]
      omega
  · rw [Int32.le_iff_toInt_le, e0] at q1
    have ex : x = Int32.ofNat x.toInt.toNat := i_nat (by omega)
    have hu := s_shiftUp h (d := x.toInt.toNat) (by omega) (by omega)
    rw [← ex] at hu
    refine hu.use (Nat.le_refl _) ?_
    rintro σ1 ⟨lo', hi', rfl, hs1⟩
    refine ⟨h.1, fun z ez => ⟨h.1, fun σ2 e2 => ⟨rfl, lo', z &&& 68719476735, ?_, bt_m36, fun s hs => ?_⟩⟩⟩
    · rw [e2]; exact uSy_1
    · rw [F_sF, if_neg (by omega), F_sF, if_pos ⟨rfl, rfl⟩, jv_long] at ez
      subst ez
      rw [sy_m36 hs, hs1 s hs]
      by_cases c : x.toInt.toNat ≤ s
      · rw [show ((s : Int) - x.toInt).toNat = s - x.toInt.toNat by omega]
        congr 1
        rw [decide_eq_decide]
        omega
      · have c2 : ¬ (0 ≤ (s : Int) - x.toInt ∧ (s : Int) - x.toInt < 100) := by omega
        simp only [c, c2, decide_false, Bool.false_and]
