/-! ===== bits of longs, counted ===== -/
theorem mN_toN {n : Nat} (h : n < 18446744073709551616) : (Int64.ofNat n).toBitVec.toNat = n := by
  rw [Int64.toBitVec_ofNat', BitVec.toNat_ofNat]; exact Nat.mod_eq_of_lt h
theorem mN_us {n k : Nat} {w : UInt64} (hn : n < 18446744073709551616) (hw : (w.toBitVec % 64).toNat = k) : ((Int64.ofNat n).toUInt64 >>> w).toInt64 = Int64.ofNat (n / 2 ^ k) := by
  have e3 : ((Int64.ofNat n).toUInt64 >>> w).toInt64.toBitVec = (Int64.ofNat n).toBitVec >>> (w.toBitVec % 64).toNat := by
    rw [UInt64.toBitVec_toInt64, UInt64.toBitVec_shiftRight, BitVec.ushiftRight_eq', Int64.toBitVec_toUInt64]
  rw [← Int64.toBitVec_inj]
  apply BitVec.eq_of_toNat_eq
  rw [e3, hw, BitVec.toNat_ushiftRight, mN_toN hn, mN_toN (Nat.lt_of_le_of_lt (Nat.div_le_self _ _) hn), Nat.shiftRight_eq_div_pow]
theorem mN_and {a b : Nat} (ha : a < 18446744073709551616) (hb : b < 18446744073709551616) : Int64.ofNat a &&& Int64.ofNat b = Int64.ofNat (a &&& b) := by
  rw [← Int64.toBitVec_inj]
  apply BitVec.eq_of_toNat_eq
  rw [Int64.toBitVec_and, BitVec.toNat_and, mN_toN ha, mN_toN hb, mN_toN (Nat.lt_of_le_of_lt Nat.and_le_left ha)]
theorem mN_add (a b : Nat) : Int64.ofNat a + Int64.ofNat b = Int64.ofNat (a + b) := (Int64.ofNat_add a b).symm
theorem mN_sub {a b : Nat} (h : b ≤ a) : Int64.ofNat a - Int64.ofNat b = Int64.ofNat (a - b) := by
  have e : a = (a - b) + b := by omega
  conv => lhs; rw [e, ← mN_add]
  exact Int64.add_sub_cancel _ _
theorem cnt_8 (p : Nat → Bool) (a : Nat) : cnt p (a + 8) = cnt p a + cnt (fun j => p (a + j)) 8 := by
  simp only [cnt, Nat.add_zero]; omega
theorem cnt_ext {p q : Nat → Bool} {n : Nat} (h : ∀ j, j < n → p j = q j) : cnt p n = cnt q n := by
  induction n with
  | zero => rfl
  | succ n ih => rw [cnt_s, cnt_s, ih (fun j hj => h j (by omega)), h n (by omega)]
theorem cnt_byte {n : Nat} (i : Nat) : cnt (fun j => n.testBit (8 * i + j)) 8 = cnt (fun j => (n / 256 ^ i % 256).testBit j) 8 := by
  refine cnt_ext (fun j hj => ?_)
  have e : (256 : Nat) = 2 ^ 8 := rfl
  rw [show n / 256 ^ i % 256 = n / 2 ^ (8 * i) % 2 ^ 8 by rw [Nat.pow_mul], Nat.testBit_mod_two_pow, decide_eq_true hj, Bool.true_and, Nat.testBit_div_two_pow, Nat.add_comm]
theorem cnt_64 (n : Nat) : cnt (fun j => n.testBit j) 64 = cnt (fun j => (n / 256 ^ 0 % 256).testBit j) 8 + cnt (fun j => (n / 256 ^ 1 % 256).testBit j) 8 + cnt (fun j => (n / 256 ^ 2 % 256).testBit j) 8 + cnt (fun j => (n / 256 ^ 3 % 256).testBit j) 8 + cnt (fun j => (n / 256 ^ 4 % 256).testBit j) 8 + cnt (fun j => (n / 256 ^ 5 % 256).testBit j) 8 + cnt (fun j => (n / 256 ^ 6 % 256).testBit j) 8 + cnt (fun j => (n / 256 ^ 7 % 256).testBit j) 8 := by
  have k : ∀ i, cnt (fun j => n.testBit j) (8 * i + 8) = cnt (fun j => n.testBit j) (8 * i) + cnt (fun j => (n / 256 ^ i % 256).testBit j) 8 := fun i => by
    rw [cnt_8, ← cnt_byte]
  have z : cnt (fun j => n.testBit j) (8 * 0) = 0 := rfl
  rw [show (64 : Nat) = 8 * 7 + 8 from rfl, k 7, show (8 : Nat) * 7 = 8 * 6 + 8 from rfl, k 6, show (8 : Nat) * 6 = 8 * 5 + 8 from rfl, k 5, show (8 : Nat) * 5 = 8 * 4 + 8 from rfl, k 4, show (8 : Nat) * 4 = 8 * 3 + 8 from rfl, k 3, show (8 : Nat) * 3 = 8 * 2 + 8 from rfl, k 2, show (8 : Nat) * 2 = 8 * 1 + 8 from rfl, k 1, show (8 : Nat) * 1 = 8 * 0 + 8 from rfl, k 0, z, Nat.zero_add]
theorem bt_tN (x : Int64) (j : Nat) : bt x j = x.toBitVec.toNat.testBit j := by unfold bt; rfl
theorem mN_of (x : Int64) : x = Int64.ofNat x.toBitVec.toNat := by
  rw [← Int64.toBitVec_inj, Int64.toBitVec_ofNat', BitVec.ofNat_toNat, BitVec.setWidth_eq]
theorem us_1 : (((1 : Int32).toInt64.toUInt64 &&& Int64.toUInt64 63).toBitVec % 64).toNat = 1 := by decide +kernel
theorem us_2 : (((2 : Int32).toInt64.toUInt64 &&& Int64.toUInt64 63).toBitVec % 64).toNat = 2 := by decide +kernel
theorem us_4 : (((4 : Int32).toInt64.toUInt64 &&& Int64.toUInt64 63).toBitVec % 64).toNat = 4 := by decide +kernel
theorem us_8 : (((8 : Int32).toInt64.toUInt64 &&& Int64.toUInt64 63).toBitVec % 64).toNat = 8 := by decide +kernel
theorem us_16 : (((16 : Int32).toInt64.toUInt64 &&& Int64.toUInt64 63).toBitVec % 64).toNat = 16 := by decide +kernel
theorem us_32 : (((32 : Int32).toInt64.toUInt64 &&& Int64.toUInt64 63).toBitVec % 64).toNat = 32 := by decide +kernel
theorem p1_le (m n : Nat) : p1 m n ≤ n := by unfold p1; omega
theorem pk_85 : pk 85 8 = 6148914691236517205 := by decide
theorem pk_51 : pk 51 8 = 3689348814741910323 := by decide
theorem pk_15 : pk 15 8 = 1085102592571150095 := by decide
theorem lit_N (n : Nat) : (OfNat.ofNat n : Int64) = Int64.ofNat n := rfl
theorem bc_1 {n : Nat} (hn : n < 18446744073709551616) : Int64.ofNat n - ((((Int64.ofNat n).toUInt64 >>> ((1 : Int32).toInt64.toUInt64 &&& Int64.toUInt64 63)).toInt64) &&& (6148914691236517205 : Int64)) = Int64.ofNat (p1 8 n) := by
  rw [mN_us hn us_1, lit_N, mN_and (Nat.lt_of_le_of_lt (Nat.div_le_self _ _) hn) (by decide), mN_sub (Nat.le_trans Nat.and_le_left (Nat.div_le_self _ _))]
  unfold p1
  rw [pk_85]
theorem bc_2 {n : Nat} (hn : n < 18446744073709551616) : (Int64.ofNat n &&& (3689348814741910323 : Int64)) + ((((Int64.ofNat n).toUInt64 >>> ((2 : Int32).toInt64.toUInt64 &&& Int64.toUInt64 63)).toInt64) &&& (3689348814741910323 : Int64)) = Int64.ofNat (p2 8 n) := by
  rw [mN_us hn us_2, lit_N, mN_and hn (by decide), mN_and (Nat.lt_of_le_of_lt (Nat.div_le_self _ _) hn) (by decide), mN_add]
  unfold p2
  rw [pk_51]
theorem bc_3 {n : Nat} (hn : n < 9223372036854775808) : (Int64.ofNat n + (((Int64.ofNat n).toUInt64 >>> ((4 : Int32).toInt64.toUInt64 &&& Int64.toUInt64 63)).toInt64)) &&& (1085102592571150095 : Int64) = Int64.ofNat (p3 8 n) := by
  have hd : n / 2 ^ 4 ≤ n := Nat.div_le_self _ _
  rw [mN_us (by omega) us_4, lit_N, mN_add, mN_and (by omega) (by decide)]
  unfold p3
  rw [pk_15]
theorem bc_s8 {n : Nat} (hn : n < 18446744073709551616) : Int64.ofNat n + (((Int64.ofNat n).toUInt64 >>> ((8 : Int32).toInt64.toUInt64 &&& Int64.toUInt64 63)).toInt64) = Int64.ofNat (n + n / 256) := by
  rw [mN_us hn us_8, mN_add]
theorem bc_s16 {n : Nat} (hn : n < 18446744073709551616) : Int64.ofNat n + (((Int64.ofNat n).toUInt64 >>> ((16 : Int32).toInt64.toUInt64 &&& Int64.toUInt64 63)).toInt64) = Int64.ofNat (n + n / 65536) := by
  rw [mN_us hn us_16, mN_add]
theorem bc_s32 {n : Nat} (hn : n < 18446744073709551616) : Int64.ofNat n + (((Int64.ofNat n).toUInt64 >>> ((32 : Int32).toInt64.toUInt64 &&& Int64.toUInt64 63)).toInt64) = Int64.ofNat (n + n / 4294967296) := by
  rw [mN_us hn us_32, mN_add]
theorem bc_end (v : Nat) : (Int64.ofNat v).toInt32 &&& 127 = Int32.ofInt ((v % 128 : Nat) : Int) := by
  have e : (Int64.ofNat v).toInt32 = nI v := lN_i v
  rw [e, pk_and (nI v) 7 (by decide), oi_nI]
  congr 1
  unfold nI
  rw [Int32.toBitVec_ofNat', BitVec.toNat_ofNat]
  omega
theorem cnt_le8 (p : Nat → Bool) : cnt p 8 ≤ 8 := cnt_le p 8
theorem bc_y {n : Nat} (hn : n < 18446744073709551616) : ∀ i, pp 8 n / 256 ^ i % 256 = if i < 8 then cnt (fun j => (n / 256 ^ i % 256).testBit j) 8 else 0 := by
  have e := pp_8 (b0 := n / 256 ^ 0 % 256) (b1 := n / 256 ^ 1 % 256) (b2 := n / 256 ^ 2 % 256) (b3 := n / 256 ^ 3 % 256) (b4 := n / 256 ^ 4 % 256) (b5 := n / 256 ^ 5 % 256) (b6 := n / 256 ^ 6 % 256) (b7 := n / 256 ^ 7 % 256) (Nat.mod_lt _ (by decide)) (Nat.mod_lt _ (by decide)) (Nat.mod_lt _ (by decide)) (Nat.mod_lt _ (by decide)) (Nat.mod_lt _ (by decide)) (Nat.mod_lt _ (by decide)) (Nat.mod_lt _ (by decide)) (Nat.mod_lt _ (by decide))
  have h7 : n / 256 ^ 7 = 256 * 0 + n / 256 ^ 7 % 256 := by
    have : n / 256 ^ 7 < 256 := Nat.div_lt_of_lt_mul hn
    rw [Nat.mod_eq_of_lt this, Nat.mul_zero, Nat.zero_add]
  have s : ∀ i, n / 256 ^ i = 256 * (n / 256 ^ (i + 1)) + n / 256 ^ i % 256 := fun i => by rw [Nat.add_comm]; exact dg_B n i
  rw [← h7, ← s 6, ← s 5, ← s 4, ← s 3, ← s 2, ← s 1, ← s 0, Nat.pow_zero, Nat.div_one] at e
  have st : ∀ {q c : Nat}, c ≤ 8 → (256 * q + c) / 256 = q ∧ (256 * q + c) % 256 = c := fun {q c} h => by omega
  have c0 := cnt_le8 (fun j => (n % 256).testBit j)
  have c1 := cnt_le8 (fun j => (n / 256 ^ 1 % 256).testBit j)
  have c2 := cnt_le8 (fun j => (n / 256 ^ 2 % 256).testBit j)
  have c3 := cnt_le8 (fun j => (n / 256 ^ 3 % 256).testBit j)
  have c4 := cnt_le8 (fun j => (n / 256 ^ 4 % 256).testBit j)
  have c5 := cnt_le8 (fun j => (n / 256 ^ 5 % 256).testBit j)
  have c6 := cnt_le8 (fun j => (n / 256 ^ 6 % 256).testBit j)
  have c7 := cnt_le8 (fun j => (n / 256 ^ 7 % 256).testBit j)
  have nx : ∀ {y q c i : Nat}, pp 8 n / 256 ^ i = 256 * q + c → c ≤ 8 → pp 8 n / 256 ^ (i + 1) = q ∧ pp 8 n / 256 ^ i % 256 = c := fun {y q c i} h hc => by
    rw [Nat.pow_succ, ← Nat.div_div_eq_div_mul, h]; exact st hc
  have k0 := nx (y := 0) (i := 0) (by rw [Nat.pow_zero, Nat.div_one]; exact e) c0
  have k1 := nx (y := 0) (i := 1) k0.1 c1
  have k2 := nx (y := 0) (i := 2) k1.1 c2
  have k3 := nx (y := 0) (i := 3) k2.1 c3
  have k4 := nx (y := 0) (i := 4) k3.1 c4
  have k5 := nx (y := 0) (i := 5) k4.1 c5
  have k6 := nx (y := 0) (i := 6) k5.1 c6
  have k7 := nx (y := 0) (i := 7) (q := 0) (by rw [k6.1, Nat.mul_zero, Nat.zero_add]) c7
  intro i
  by_cases hi : i < 8
  · rw [if_pos hi]
    have : i = 0 ∨ i = 1 ∨ i = 2 ∨ i = 3 ∨ i = 4 ∨ i = 5 ∨ i = 6 ∨ i = 7 := by clear e h7 s st c0 c1 c2 c3 c4 c5 c6 c7 nx k0 k1 k2 k3 k4 k5 k6 k7 hn; omega
    rcases this with rfl | rfl | rfl | rfl | rfl | rfl | rfl | rfl
    · rw [k0.2, Nat.pow_zero, Nat.div_one]
    · exact k1.2
    · exact k2.2
    · exact k3.2
    · exact k4.2
    · exact k5.2
    · exact k6.2
    · exact k7.2
  · rw [if_neg hi]
    obtain ⟨j, rfl⟩ : ∃ j, i = 7 + 1 + j := ⟨i - 8, by clear e h7 s st c0 c1 c2 c3 c4 c5 c6 c7 nx k0 k1 k2 k3 k4 k5 k6 k7 hn; omega⟩
    rw [Nat.pow_add, ← Nat.div_div_eq_div_mul, k7.1, Nat.zero_div]
theorem bc_bound {y : Nat} (h : ∀ i, y / 256 ^ i % 256 ≤ 8) (h8 : y / 256 ^ 8 = 0) : y < 1000000000000000000 := by
  have e := dg_B y 7
  rw [h8, Nat.mul_zero, Nat.add_zero] at e
  have h7 := h 7
  rw [← e] at h7
  have : y / 72057594037927936 ≤ 8 := h7
  clear h h8 e h7
  omega
theorem s_bitCount {σ : pm_H} (x : Int64) : cI 0 243 [.long x] σ (Int32.ofInt ((cnt (bt x) 64 : Nat) : Int)) := by
  have hn : x.toBitVec.toNat < 18446744073709551616 := x.toBitVec.isLt
  have hx := mN_of x
  have hb : cnt (bt x) 64 = cnt (fun j => x.toBitVec.toNat.testBit j) 64 := cnt_ext (fun j _ => bt_tN x j)
  generalize x.toBitVec.toNat = n at hn hx hb
  have hy := bc_y hn
  have hy8 : ∀ i, pp 8 n / 256 ^ i % 256 ≤ 8 := fun i => by
    rw [hy i]; split
    · exact cnt_le8 _
    · exact Nat.zero_le _
  have e1 := bc_1 hn
  have l1 : p1 8 n < 18446744073709551616 := Nat.lt_of_le_of_lt (p1_le 8 n) hn
  have e2 := bc_2 l1
  have l2 : p2 8 (p1 8 n) < 9223372036854775808 := by
    unfold p2
    have a1 : p1 8 n &&& pk 51 8 ≤ pk 51 8 := Nat.and_le_right
    have a2 : p1 8 n / 4 &&& pk 51 8 ≤ pk 51 8 := Nat.and_le_right
    rw [pk_51] at a1 a2 ⊢
    clear hy hy8 e1 e2 hx hb
    omega
  have e3 := bc_3 l2
  have d := dg_sum (Y := fun i => pp 8 n / 256 ^ i) (c := fun i => pp 8 n / 256 ^ i % 256) (fun i => dg_B _ i) hy8
  have h8 : pp 8 n / 256 ^ 8 = 0 := by
    have l3 : pp 8 n ≤ pk 15 8 := Nat.and_le_right
    rw [pk_15] at l3
    refine Nat.div_eq_of_lt (Nat.lt_of_le_of_lt l3 (by decide))
  have ly := bc_bound hy8 h8
  have eC : cnt (bt x) 64 = ((pp 8 n / 256 ^ 0 % 256 + pp 8 n / 256 ^ 1 % 256) + (pp 8 n / 256 ^ 2 % 256 + pp 8 n / 256 ^ 3 % 256)) + ((pp 8 n / 256 ^ 4 % 256 + pp 8 n / 256 ^ 5 % 256) + (pp 8 n / 256 ^ 6 % 256 + pp 8 n / 256 ^ 7 % 256)) := by
    rw [hb, cnt_64]
    simp only [hy]
    simp only [show (0 : Nat) < 8 by decide, show (1 : Nat) < 8 by decide, show (2 : Nat) < 8 by decide, show (3 : Nat) < 8 by decide, show (4 : Nat) < 8 by decide, show (5 : Nat) < 8 by decide, show (6 : Nat) < 8 by decide, show (7 : Nat) < 8 by decide, if_true, Nat.add_assoc]
  clear hy hy8 hb h8
  obtain ⟨d1, d2, d3, d4⟩ := d
  rw [← eC] at d4
  clear eC
  rw [Nat.pow_zero, Nat.div_one] at d1 d2 d3 d4
  subst hx
  refine w_J_bitCount_0 ⟨?_, rfl⟩
  rw [e1, e2, e3]
  have hp : p3 8 (p2 8 (p1 8 n)) = pp 8 n := rfl
  rw [hp]
  rw [bc_s8 (Nat.lt_trans ly (by decide)), d1]
  have hd : ∀ i, pp 8 n / 256 ^ i < 1000000000000000000 := fun i => Nat.lt_of_le_of_lt (Nat.div_le_self _ _) ly
  have u1 := hd 1
  have u2 := hd 2
  have u3 := hd 3
  rw [bc_s16 (by clear d1 d2 d3 d4 e1 e2 e3; omega), d2, bc_s32 (by clear d1 d2 d3 d4 e1 e2 e3; omega), d3, bc_end, d4]
