/-! ===== sets of symbols ===== -/
theorem b32 {x : Int} (h : -2147483648 ≤ x ∧ x < 2147483648) : x.bmod 4294967296 = x := by
  rw [Int.bmod_def]
  split <;> omega
def bt (x : Int64) (j : Nat) : Bool := x.toBitVec.getLsbD j
theorem bt_and (x y : Int64) (j : Nat) : bt (x &&& y) j = (bt x j && bt y j) := by simp [bt]
theorem bt_or (x y : Int64) (j : Nat) : bt (x ||| y) j = (bt x j || bt y j) := by simp [bt]
theorem bt_zero (j : Nat) : bt 0 j = false := by simp [bt]
theorem bt_ge (x : Int64) {j : Nat} (h : 64 ≤ j) : bt x j = false := by
  unfold bt
  exact BitVec.getLsbD_of_ge _ _ h
theorem bt_ext {x y : Int64} (h : ∀ j, j < 64 → bt x j = bt y j) : x = y := by
  have e : x.toBitVec = y.toBitVec := BitVec.eq_of_getLsbD_eq (fun i hi => h i hi)
  exact Int64.toBitVec_inj.mp e
theorem bt_up : ∀ a : Nat, a < 64 → ∀ j : Nat, j < 64 → bt ((-1 : Int64) <<< ((Int32.ofNat a).toInt64 &&& 63)) j = decide (a ≤ j) := by decide +kernel
theorem bt_dn : ∀ a : Nat, a < 64 → ∀ j : Nat, j < 64 → bt (((-1 : Int64).toUInt64 >>> (((63 : Int32) - Int32.ofNat a).toInt64.toUInt64 &&& Int64.toUInt64 63)).toInt64) j = decide (j ≤ a) := by decide +kernel
theorem i_nat {x : Int32} (h : 0 ≤ x.toInt) : x = Int32.ofNat x.toInt.toNat := by
  have := Int32.toInt_lt x
  have e : (Int32.ofNat x.toInt.toNat).toInt = ((x.toInt.toNat : Nat) : Int) := Int32.toInt_ofNat_of_lt (by omega)
  rw [← Int32.toInt_inj, e]
  omega
theorem lg0 {x y : Int64} : lg_cmp x y = 0 ↔ x = y := by
  unfold lg_cmp
  constructor
  · intro h
    split at h
    · cases h
    · split at h
      · assumption
      · cases h
  · rintro rfl
    simp
/-- the bits from one place to another -/
def mB (x0 x1 : Int32) : Int64 := if (if x0 ≤ 0 then 0 else x0) ≤ (if 64 ≤ x1 then 63 else x1) then ((-1 : Int64) <<< ((if x0 ≤ 0 then 0 else x0).toInt64 &&& 63)) &&& (((-1 : Int64).toUInt64 >>> (((63 : Int32) - (if 64 ≤ x1 then 63 else x1)).toInt64.toUInt64 &&& Int64.toUInt64 63)).toInt64) else 0
theorem bt_mB (x0 x1 : Int32) {j : Nat} (hj : j < 64) : bt (mB x0 x1) j = decide (x0.toInt ≤ j ∧ (j : Int) ≤ x1.toInt) := by
  have e1 : (if x0 ≤ 0 then 0 else x0).toInt = if x0.toInt ≤ 0 then 0 else x0.toInt := by
    simp only [Int32.le_iff_toInt_le, show (0 : Int32).toInt = 0 from rfl]
    split <;> rfl
  have e2 : (if 64 ≤ x1 then 63 else x1).toInt = if 64 ≤ x1.toInt then 63 else x1.toInt := by
    simp only [Int32.le_iff_toInt_le, show (64 : Int32).toInt = 64 from rfl]
    split <;> rfl
  unfold mB
  generalize (if x0 ≤ 0 then 0 else x0) = a at *
  generalize (if 64 ≤ x1 then 63 else x1) = b at *
  by_cases h : a ≤ b
  · rw [if_pos h]
    rw [Int32.le_iff_toInt_le] at h
    have ha : a.toInt.toNat < 64 := by split at e1 <;> split at e2 <;> omega
    have hb : b.toInt.toNat < 64 := by split at e1 <;> split at e2 <;> omega
    have ha0 : 0 ≤ a.toInt := by split at e1 <;> omega
    have hb0 : 0 ≤ b.toInt := by omega
    have k1 := bt_up _ ha j hj
    have k2 := bt_dn _ hb j hj
    rw [← i_nat ha0] at k1
    rw [← i_nat hb0] at k2
    rw [bt_and, k1, k2, ← Bool.decide_and, decide_eq_decide]
    split at e1 <;> split at e2 <;> omega
  · rw [if_neg h, bt_zero]
    rw [Int32.le_iff_toInt_le] at h
    symm
    rw [decide_eq_false_iff_not]
    split at e1 <;> split at e2 <;> omega
theorem s_bits (x0 x1 : Int32) (σ : pm_H) : cJ 0 93 [.int x0, .int x1] σ (mB x0 x1) := by
  unfold mB
  refine w_Sy_bits_0 ⟨fun h => ⟨fun h2 => ?_, fun h2 => ?_⟩, fun h => ⟨fun h2 => ?_, fun h2 => ?_⟩⟩
  · rw [if_pos h, if_pos h2]; exact w_Sy_bits_12 ⟨fun h3 => ⟨by rw [if_pos h3], rfl⟩, fun h3 => ⟨by rw [if_neg h3], rfl⟩⟩
  · rw [if_pos h, if_neg h2]; exact w_Sy_bits_12 ⟨fun h3 => ⟨by rw [if_pos h3], rfl⟩, fun h3 => ⟨by rw [if_neg h3], rfl⟩⟩
  · rw [if_neg h, if_pos h2]; exact w_Sy_bits_12 ⟨fun h3 => ⟨by rw [if_pos h3], rfl⟩, fun h3 => ⟨by rw [if_neg h3], rfl⟩⟩
  · rw [if_neg h, if_neg h2]; exact w_Sy_bits_12 ⟨fun h3 => ⟨by rw [if_pos h3], rfl⟩, fun h3 => ⟨by rw [if_neg h3], rfl⟩⟩
/-- a set of symbols: two longs -/
def sy (lo hi : Int64) (s : Nat) : Bool := if s < 64 then bt lo s else bt hi (s - 64)
/-- a set lies at an address -/
def aSy (σ : pm_H) (g : Nat) (lo hi : Int64) : Prop := pm_t σ g = 9 ∧ pm_F σ 800 g = .long lo ∧ pm_F σ 801 g = .long hi
def uSy (σ : pm_H) (g : Nat) (lo hi : Int64) : pm_H := pm_sF (pm_sF σ 800 g (.long lo)) 801 g (.long hi)
theorem s_clear {σ : pm_H} {g : Nat} (h : pm_t σ g = 9) : cV 0 73 [.ref g] σ (fun σ' => σ' = uSy σ g 0 0) := by
  refine w_Sy_clear_0 ?_
  simp only [h, t_sF, forall_eq, true_and, and_self, uSy]
theorem bt_us {a : Nat} (ha : a < 64) (x : Int64) (j : Nat) : bt (x.toUInt64 >>> ((Int32.ofNat a).toInt64.toUInt64 &&& Int64.toUInt64 63)).toInt64 j = bt x (a + j) := by
  have e : ∀ a : Nat, a < 64 → (((Int32.ofNat a).toInt64.toUInt64 &&& Int64.toUInt64 63).toBitVec % 64).toNat = a := by decide +kernel
  have e := e a ha
  generalize ((Int32.ofNat a).toInt64.toUInt64 &&& Int64.toUInt64 63) = w at *
  unfold bt
  have e3 : (x.toUInt64 >>> w).toInt64.toBitVec = x.toBitVec >>> (w.toBitVec % 64).toNat := by
    rw [UInt64.toBitVec_toInt64, UInt64.toBitVec_shiftRight, BitVec.ushiftRight_eq', Int64.toBitVec_toUInt64]
  rw [e3, e, BitVec.getLsbD_ushiftRight]
theorem bt_one : ∀ j : Nat, j < 64 → bt 1 j = decide (j = 0) := by decide +kernel
theorem bt_shr {a : Nat} (ha : a < 64) (x : Int64) : ((x.toUInt64 >>> ((Int32.ofNat a).toInt64.toUInt64 &&& Int64.toUInt64 63)).toInt64 &&& 1 = 0) ↔ bt x a = false := by
  constructor
  · intro h
    have h2 := congrArg (fun z => bt z 0) h
    simp only [bt_and, bt_us ha, bt_zero, bt_one 0 (by decide), Nat.add_zero, decide_true, Bool.and_true] at h2
    exact h2
  · intro h
    refine bt_ext (fun j hj => ?_)
    rw [bt_and, bt_zero, bt_us ha, bt_one j hj]
    by_cases h0 : j = 0
    · subst h0; rw [Nat.add_zero, h]; rfl
    · simp [h0]
theorem i_and63 : ∀ s : Nat, s < 100 → ((Int32.ofNat s) &&& 63) = Int32.ofNat (if s < 64 then s else s - 64) := by decide +kernel
/-- a boolean as an int -/
def bI (b : Bool) : Int32 := match b with
  | true => 1
  | false => 0
theorem bI_and (b : Bool) : bI b &&& 1 = bI b := by cases b <;> rfl
theorem bI_0 {b : Bool} : bI b = 0 ↔ b = false := by cases b <;> decide
/-- has, for a symbol -/
theorem s_has {σ : pm_H} {g : Nat} {lo hi : Int64} (h : aSy σ g lo hi) {s : Nat} (hs : s < 100) : cI 0 83 [.ref g, .int (Int32.ofNat s)] σ (bI (sy lo hi s)) := by
  obtain ⟨h1, h2, h3⟩ := h
  have a0 : ∀ s : Nat, s < 100 → ¬ Int32.ofNat s < 0 ∧ Int32.ofNat s < 100 ∧ (64 ≤ Int32.ofNat s ↔ 64 ≤ s) := by decide +kernel
  obtain ⟨b1, b2, b3⟩ := a0 s hs
  refine w_Sy_has_0 ⟨fun q => absurd q b1, fun _ => ⟨fun _ => ⟨fun q => ⟨h1, fun z hz => ?_⟩, fun q => ⟨h1, fun z hz => ?_⟩⟩, fun q => absurd b2 q⟩⟩
  · have q := b3.mp q
    rw [h3, jv_long] at hz
    subst hz
    have es : sy lo z s = bt z (s - 64) := by unfold sy; rw [if_neg (by omega)]
    refine w_Sy_has_15 ?_
    rw [i_and63 s hs, if_neg (by omega), lg0, bt_shr (by omega), es]
    cases bt z (s - 64)
    · exact ⟨fun _ => ⟨rfl, rfl, rfl⟩, fun e => absurd rfl e⟩
    · exact ⟨fun e => Bool.noConfusion e, fun _ => ⟨rfl, rfl, rfl⟩⟩
  · have q : ¬ 64 ≤ s := fun r => q (b3.mpr r)
    rw [h2, jv_long] at hz
    subst hz
    have es : sy z hi s = bt z s := by unfold sy; rw [if_pos (by omega)]
    refine w_Sy_has_15 ?_
    rw [i_and63 s hs, if_pos (by omega), lg0, bt_shr (by omega), es]
    cases bt z s
    · exact ⟨fun _ => ⟨rfl, rfl, rfl⟩, fun e => absurd rfl e⟩
    · exact ⟨fun e => Bool.noConfusion e, fun _ => ⟨rfl, rfl, rfl⟩⟩
theorem s_has_out {σ : pm_H} {g : Nat} {x : Int32} (hx : x < 0 ∨ ¬ x < 100) : cI 0 83 [.ref g, .int x] σ 0 := by
  refine w_Sy_has_0 ⟨fun q => ⟨rfl, rfl, rfl⟩, fun q => ⟨fun q2 => ?_, fun q2 => ⟨rfl, rfl, rfl⟩⟩⟩
  rcases hx with hx | hx
  · exact absurd hx q
  · exact absurd q2 hx
theorem s_isEmpty {σ : pm_H} {g : Nat} {lo hi : Int64} (h : aSy σ g lo hi) : cI 0 84 [.ref g] σ (bI (decide (lo = 0 ∧ hi = 0))) := by
  obtain ⟨h1, h2, h3⟩ := h
  refine w_Sy_isEmpty_0 ?_
  simp only [h1, h2, h3, jv_long, forall_eq, true_and, lg0]
  by_cases e : lo = 0
  · by_cases e2 : hi = 0
    · simp [e, e2, bI]
    · simp [e, e2, bI]
  · simp [e, bI]
theorem aSy_u {σ : pm_H} {g : Nat} {lo hi : Int64} (h : pm_t σ g = 9) : aSy (uSy σ g lo hi) g lo hi := by
  refine ⟨h, ?_, ?_⟩ <;> simp [uSy, F_sF]
theorem s_fill {σ : pm_H} {g : Nat} (h : pm_t σ g = 9) : cV 0 74 [.ref g] σ (fun σ' => σ' = uSy σ g (-1) 68719476735) := by
  refine w_Sy_fill_0 ?_
  simp only [h, t_sF, forall_eq, true_and, and_self, uSy]
theorem s_copyFrom {σ : pm_H} {g g' : Nat} {lo hi : Int64} (h : pm_t σ g = 9) (h' : aSy σ g' lo hi) : cV 0 75 [.ref g, .ref g'] σ (fun σ' => σ' = uSy σ g lo hi) := by
  obtain ⟨h1, h2, h3⟩ := h'
  refine w_Sy_copyFrom_0 ?_
  simp only [h, h1, h2, h3, jv_long, t_sF, F_sF, forall_eq, true_and, and_self, uSy, Nat.reduceEqDiff, false_and, if_false]
theorem s_include {σ : pm_H} {g : Nat} {lo hi : Int64} {x1 x2 : Int32} (h : aSy σ g lo hi) : cV 1 76 [.ref g, .int x1, .int x2] σ (fun σ' => σ' = uSy σ g (lo ||| mB x1 x2) (hi ||| mB (x1 - 64) (x2 - 64))) := by
  obtain ⟨h1, h2, h3⟩ := h
  refine w_Sy_include_0 ⟨h1, fun z hz => (s_bits _ _ _).use (Nat.le_refl _) ⟨h1, fun σ3 e3 => ?_⟩⟩
  subst e3
  refine ⟨h1, fun z4 h4 => (s_bits _ _ _).use (Nat.le_refl _) ⟨h1, fun σ6 e6 => ?_⟩⟩
  subst e6
  rw [h2, jv_long] at hz
  rw [F_sF, if_neg (by omega), h3, jv_long] at h4
  subst hz h4
  exact ⟨rfl, rfl⟩
theorem s_keep {σ : pm_H} {g : Nat} {lo hi : Int64} {x1 x2 : Int32} (h : aSy σ g lo hi) : cV 1 78 [.ref g, .int x1, .int x2] σ (fun σ' => σ' = uSy σ g (lo &&& mB x1 x2) (hi &&& mB (x1 - 64) (x2 - 64))) := by
  obtain ⟨h1, h2, h3⟩ := h
  refine w_Sy_keep_0 ⟨h1, fun z hz => (s_bits _ _ _).use (Nat.le_refl _) ⟨h1, fun σ3 e3 => ?_⟩⟩
  subst e3
  refine ⟨h1, fun z4 h4 => (s_bits _ _ _).use (Nat.le_refl _) ⟨h1, fun σ6 e6 => ?_⟩⟩
  subst e6
  rw [h2, jv_long] at hz
  rw [F_sF, if_neg (by omega), h3, jv_long] at h4
  subst hz h4
  exact ⟨rfl, rfl⟩
theorem s_include2 {σ : pm_H} {g g' : Nat} {lo hi lo' hi' : Int64} (h : aSy σ g lo hi) (h' : aSy σ g' lo' hi') : cV 0 77 [.ref g, .ref g'] σ (fun σ' => σ' = uSy σ g (lo ||| lo') (hi ||| hi')) := by
  obtain ⟨h1, h2, h3⟩ := h
  obtain ⟨k1, k2, k3⟩ := h'
  refine w_Sy_include2_0 ?_
  simp only [h1, h2, h3, k1, k2, k3, jv_long, t_sF, F_sF, forall_eq, true_and, and_self, uSy, Nat.reduceEqDiff, false_and, if_false]
theorem s_keep2 {σ : pm_H} {g g' : Nat} {lo hi lo' hi' : Int64} (h : aSy σ g lo hi) (h' : aSy σ g' lo' hi') : cV 0 79 [.ref g, .ref g'] σ (fun σ' => σ' = uSy σ g (lo &&& lo') (hi &&& hi')) := by
  obtain ⟨h1, h2, h3⟩ := h
  obtain ⟨k1, k2, k3⟩ := h'
  refine w_Sy_keep2_0 ?_
  simp only [h1, h2, h3, k1, k2, k3, jv_long, t_sF, F_sF, forall_eq, true_and, and_self, uSy, Nat.reduceEqDiff, false_and, if_false]
theorem s_meets {σ : pm_H} {g g' : Nat} {lo hi lo' hi' : Int64} (h : aSy σ g lo hi) (h' : aSy σ g' lo' hi') : cI 0 85 [.ref g, .ref g'] σ (bI (decide (¬ (lo &&& lo' = 0 ∧ hi &&& hi' = 0)))) := by
  obtain ⟨h1, h2, h3⟩ := h
  obtain ⟨k1, k2, k3⟩ := h'
  refine w_Sy_meets_0 ?_
  simp only [h1, h2, h3, k1, k2, k3, jv_long, forall_eq, true_and, lg0]
  by_cases e : lo &&& lo' = 0
  · by_cases e2 : hi &&& hi' = 0
    · simp [e, e2, bI]
    · simp [e, e2, bI]
  · simp [e, bI]
theorem s_meetsWithin {σ : pm_H} {g g' : Nat} {lo hi lo' hi' : Int64} {x1 x2 : Int32} (h : aSy σ g lo hi) (h' : aSy σ g' lo' hi') : cI 1 86 [.ref g, .ref g', .int x1, .int x2] σ (bI (decide (¬ ((lo &&& lo') &&& mB x1 x2 = 0 ∧ (hi &&& hi') &&& mB (x1 - 64) (x2 - 64) = 0)))) := by
  obtain ⟨h1, h2, h3⟩ := h
  obtain ⟨k1, k2, k3⟩ := h'
  refine w_Sy_meetsWithin_0 ⟨h1, fun z1 e1 => ⟨k1, fun z2 e2 => (s_bits _ _ _).use (Nat.le_refl _) ?_⟩⟩
  rw [h2, jv_long] at e1
  rw [k2, jv_long] at e2
  subst e1 e2
  refine ⟨fun e => ⟨h1, fun z4 e4 => ⟨k1, fun z5 e5 => (s_bits _ _ _).use (Nat.le_refl _) ?_⟩⟩, fun e => ?_⟩
  · rw [h3, jv_long] at e4
    rw [k3, jv_long] at e5
    subst e4 e5
    rw [lg0] at e
    rw [lg0]
    refine ⟨fun e6 => ⟨rfl, ?_, rfl⟩, fun e6 => ⟨rfl, ?_, rfl⟩⟩ <;> simp [e, e6, bI]
  · rw [lg0] at e
    refine ⟨rfl, ?_, rfl⟩
    simp [e, bI]
