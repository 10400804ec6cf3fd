/-! ===== how many bits a long has ===== -/
def pk (c : Nat) : Nat → Nat
  | 0 => 0
  | m + 1 => 256 * pk c m + c
theorem land_256 {q r M c : Nat} (hr : r < 256) (hc : c < 256) : (256 * q + r) &&& (256 * M + c) = 256 * (q &&& M) + (r &&& c) := by
  have hrc : r &&& c < 2 ^ 8 := Nat.lt_of_le_of_lt Nat.and_le_left hr
  apply Nat.eq_of_testBit_eq
  intro j
  rw [Nat.testBit_and, show (256 : Nat) = 2 ^ 8 from rfl, Nat.testBit_two_pow_mul_add _ hr, Nat.testBit_two_pow_mul_add _ hc, Nat.testBit_two_pow_mul_add _ hrc]
  split
  · rw [Nat.testBit_and]
  · rw [Nat.testBit_and]
def p1 (m n : Nat) : Nat := n - ((n / 2) &&& pk 85 m)
def p2 (m n : Nat) : Nat := (n &&& pk 51 m) + ((n / 4) &&& pk 51 m)
def p3 (m n : Nat) : Nat := (n + n / 16) &&& pk 15 m
theorem p1_s {m q r : Nat} (hr : r < 256) : p1 (m + 1) (256 * q + r) = 256 * p1 m q + p1 1 r := by
  have f : ∀ t : Nat, t < 2 → ∀ r : Nat, r < 256 → (128 * t + r / 2) &&& 85 = (r / 2) &&& 85 := by decide +kernel
  have e : (256 * q + r) / 2 = 256 * (q / 2) + (128 * (q % 2) + r / 2) := by omega
  unfold p1
  rw [e, pk, land_256 (by omega) (by omega), f _ (by omega) _ hr]
  have a1 : (q / 2) &&& pk 85 m ≤ q / 2 := Nat.and_le_left
  have a2 : (r / 2) &&& 85 ≤ r / 2 := Nat.and_le_left
  have a3 : pk 85 1 = 85 := rfl
  rw [a3]
  omega
theorem p2_s {m q r : Nat} (hr : r < 256) : p2 (m + 1) (256 * q + r) = 256 * p2 m q + p2 1 r := by
  have f : ∀ t : Nat, t < 4 → ∀ r : Nat, r < 256 → (64 * t + r / 4) &&& 51 = (r / 4) &&& 51 := by decide +kernel
  have e : (256 * q + r) / 4 = 256 * (q / 4) + (64 * (q % 4) + r / 4) := by omega
  unfold p2
  rw [e, pk, land_256 hr (by omega), land_256 (by omega) (by omega), f _ (by omega) _ hr]
  have a3 : pk 51 1 = 51 := rfl
  rw [a3]
  omega
theorem p3_s {m q r : Nat} (hr : r ≤ 68) (hq : q % 16 ≤ 4) : p3 (m + 1) (256 * q + r) = 256 * p3 m q + p3 1 r := by
  have f : ∀ t : Nat, t < 5 → ∀ r : Nat, r < 69 → (r + r / 16 + 16 * t) &&& 15 = (r + r / 16) &&& 15 := by decide +kernel
  have e : (256 * q + r) + (256 * q + r) / 16 = 256 * (q + q / 16) + (r + r / 16 + 16 * (q % 16)) := by omega
  unfold p3
  rw [e, pk, land_256 (by omega) (by omega), f _ (by omega) _ (by omega)]
  have a3 : pk 15 1 = 15 := rfl
  rw [a3]
theorem p12 : ∀ r : Nat, r < 256 → p1 1 r < 256 ∧ p2 1 (p1 1 r) ≤ 68 ∧ p2 1 (p1 1 r) % 16 ≤ 4 ∧ p3 1 (p2 1 (p1 1 r)) = cnt (fun j => r.testBit j) 8 := by decide +kernel
def pp (m n : Nat) : Nat := p3 m (p2 m (p1 m n))
theorem pp_s {m q r : Nat} (hr : r < 256) (hq : p2 m (p1 m q) % 16 ≤ 4) : pp (m + 1) (256 * q + r) = 256 * pp m q + cnt (fun j => r.testBit j) 8 ∧ p2 (m + 1) (p1 (m + 1) (256 * q + r)) % 16 ≤ 4 := by
  obtain ⟨h1, h2, h3, h4⟩ := p12 r hr
  have e : p2 (m + 1) (p1 (m + 1) (256 * q + r)) = 256 * p2 m (p1 m q) + p2 1 (p1 1 r) := by
    rw [p1_s hr, p2_s h1]
  refine ⟨?_, by rw [e]; omega⟩
  unfold pp
  rw [e, p3_s h2 hq, h4]
theorem pp_8 {b0 b1 b2 b3 b4 b5 b6 b7 : Nat} (h0 : b0 < 256) (h1 : b1 < 256) (h2 : b2 < 256) (h3 : b3 < 256) (h4 : b4 < 256) (h5 : b5 < 256) (h6 : b6 < 256) (h7 : b7 < 256) :
    pp 8 (256 * (256 * (256 * (256 * (256 * (256 * (256 * (256 * 0 + b7) + b6) + b5) + b4) + b3) + b2) + b1) + b0) =
      256 * (256 * (256 * (256 * (256 * (256 * (256 * cnt (fun j => b7.testBit j) 8 + cnt (fun j => b6.testBit j) 8) + cnt (fun j => b5.testBit j) 8) + cnt (fun j => b4.testBit j) 8) + cnt (fun j => b3.testBit j) 8) + cnt (fun j => b2.testBit j) 8) + cnt (fun j => b1.testBit j) 8) + cnt (fun j => b0.testBit j) 8 := by
  obtain ⟨e7, k7⟩ := pp_s (m := 0) (q := 0) h7 (by decide)
  obtain ⟨e6, k6⟩ := pp_s h6 k7
  obtain ⟨e5, k5⟩ := pp_s h5 k6
  obtain ⟨e4, k4⟩ := pp_s h4 k5
  obtain ⟨e3, k3⟩ := pp_s h3 k4
  obtain ⟨e2, k2⟩ := pp_s h2 k3
  obtain ⟨e1, k1⟩ := pp_s h1 k2
  obtain ⟨e0, k0⟩ := pp_s h0 k1
  have z : pp 0 0 = 0 := by decide
  rw [e0, e1, e2, e3, e4, e5, e6, e7, z]
  omega
