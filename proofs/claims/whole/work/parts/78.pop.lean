/-! ===== how many symbols a set has: sums of digits ===== -/
theorem dg_add {a b c q r s : Nat} {d e : Nat} (h1 : a = d + 256 * q) (h2 : b = e + 256 * r) : a + b = (d + e) + 256 * (q + r) := by omega
theorem dg_1 {a d q : Nat} (h : a = d + 256 * q) (hd : d < 256) : a / 256 = q := by omega
theorem dg_2 {a b d e q : Nat} (h : a = d + 256 * b) (h' : b = e + 256 * q) (hd : d < 256) (he : e < 256) : a / 65536 = q := by
  rw [show (65536 : Nat) = 256 * 256 from rfl, ← Nat.div_div_eq_div_mul, dg_1 h hd, dg_1 h' he]
theorem dg_128 {a d q : Nat} (h : a = d + 256 * q) (hd : d < 128) : a % 128 = d := by omega
theorem dg_B (y i : Nat) : y / 256 ^ i = y / 256 ^ i % 256 + 256 * (y / 256 ^ (i + 1)) := by
  rw [Nat.pow_succ, ← Nat.div_div_eq_div_mul]
  omega
theorem dg_sum {Y c : Nat → Nat} (hY : ∀ i, Y i = c i + 256 * Y (i + 1)) (hc : ∀ i, c i ≤ 8) : Y 0 / 256 = Y 1 ∧ (Y 0 + Y 1) / 65536 = Y 2 + Y 3 ∧ ((Y 0 + Y 1) + (Y 2 + Y 3)) / 4294967296 = (Y 4 + Y 5) + (Y 6 + Y 7) ∧ (((Y 0 + Y 1) + (Y 2 + Y 3)) + ((Y 4 + Y 5) + (Y 6 + Y 7))) % 128 = ((c 0 + c 1) + (c 2 + c 3)) + ((c 4 + c 5) + (c 6 + c 7)) := by
  have hZ : ∀ i, Y i + Y (i + 1) = (c i + c (i + 1)) + 256 * (Y (i + 1) + Y (i + 2)) := fun i => dg_add (c := 0) (s := 0) (hY i) (hY (i + 1))
  have hW : ∀ i, (Y i + Y (i + 1)) + (Y (i + 2) + Y (i + 3)) = ((c i + c (i + 1)) + (c (i + 2) + c (i + 3))) + 256 * ((Y (i + 1) + Y (i + 2)) + (Y (i + 3) + Y (i + 4))) := fun i => dg_add (c := 0) (s := 0) (hZ i) (hZ (i + 2))
  have hV := dg_add (c := 0) (s := 0) (hW 0) (hW 4)
  have bZ : ∀ i, c i + c (i + 1) < 256 := fun i => by have := hc i; have := hc (i + 1); clear hY hZ hW hV hc; omega
  have bW : ∀ i, (c i + c (i + 1)) + (c (i + 2) + c (i + 3)) ≤ 32 := fun i => by have := hc i; have := hc (i + 1); have := hc (i + 2); have := hc (i + 3); clear hY hZ hW hV hc; omega
  have bW' : ∀ i, (c i + c (i + 1)) + (c (i + 2) + c (i + 3)) < 256 := fun i => by have := bW i; clear hY hZ hW hV hc; omega
  refine ⟨dg_1 (hY 0) (by have := hc 0; clear hY hZ hW hV hc; omega), dg_2 (hZ 0) (hZ 1) (bZ 0) (bZ 1), ?_, dg_128 hV (Nat.lt_of_le_of_lt (Nat.add_le_add (bW 0) (bW 4)) (by decide))⟩
  rw [show (4294967296 : Nat) = 65536 * 65536 from rfl, ← Nat.div_div_eq_div_mul, dg_2 (hW 0) (hW 1) (bW' 0) (bW' 1)]
  exact dg_2 (hW 2) (hW 3) (bW' 2) (bW' 3)
