/-! LEVEL 3, numbers: wraps that do nothing, bits of what is not negative -/
theorem w32e {z : Int} (h1 : -2147483648 ≤ z) (h2 : z ≤ 2147483647) : am_w32 z = z := am_w32_id ⟨h1, h2⟩
theorem w64e {z : Int} (h1 : -9223372036854775808 ≤ z) (h2 : z ≤ 9223372036854775807) : am_w64 z = z := am_w64_id ⟨h1, h2⟩
theorem bt_of32 (a : Nat) : (Int32.ofInt (a : Int)).toBitVec = BitVec.ofNat 32 a := by
  rw [Int32.ofInt_eq_ofNat]; rfl
theorem bt_of64 (a : Nat) : (Int64.ofInt (a : Int)).toBitVec = BitVec.ofNat 64 a := by
  rw [Int64.ofInt_eq_ofNat]; rfl
theorem bt_to32 {a : Nat} (h : a < 2147483648) : (BitVec.ofNat 32 a).toInt = (a : Int) := by
  rw [BitVec.toInt_eq_toNat_of_lt (by rw [BitVec.toNat_ofNat]; omega), BitVec.toNat_ofNat]
  congr 1
  omega
theorem bt_to64 {a : Nat} (h : a < 9223372036854775808) : (BitVec.ofNat 64 a).toInt = (a : Int) := by
  rw [BitVec.toInt_eq_toNat_of_lt (by rw [BitVec.toNat_ofNat]; omega), BitVec.toNat_ofNat]
  congr 1
  omega
theorem iand_n {a b : Nat} (ha : a < 2147483648) : am_iand (a : Int) (b : Int) = ((a &&& b : Nat) : Int) := by
  show (Int32.ofInt (a : Int) &&& Int32.ofInt (b : Int)).toBitVec.toInt = _
  rw [Int32.toBitVec_and, bt_of32, bt_of32, ← BitVec.ofNat_and, bt_to32 (Nat.lt_of_le_of_lt Nat.and_le_left ha)]
theorem land_n {a b : Nat} (ha : a < 9223372036854775808) : am_land (a : Int) (b : Int) = ((a &&& b : Nat) : Int) := by
  show (Int64.ofInt (a : Int) &&& Int64.ofInt (b : Int)).toBitVec.toInt = _
  rw [Int64.toBitVec_and, bt_of64, bt_of64, ← BitVec.ofNat_and, bt_to64 (Nat.lt_of_le_of_lt Nat.and_le_left ha)]
theorem ior_n {a b : Nat} (ha : a < 2147483648) (hb : b < 2147483648) : am_ior (a : Int) (b : Int) = ((a ||| b : Nat) : Int) := by
  show (Int32.ofInt (a : Int) ||| Int32.ofInt (b : Int)).toBitVec.toInt = _
  rw [Int32.toBitVec_or, bt_of32, bt_of32, ← BitVec.ofNat_or, bt_to32 (Nat.or_lt_two_pow (n := 31) ha hb)]
theorem lor_n {a b : Nat} (ha : a < 9223372036854775808) (hb : b < 9223372036854775808) : am_lor (a : Int) (b : Int) = ((a ||| b : Nat) : Int) := by
  show (Int64.ofInt (a : Int) ||| Int64.ofInt (b : Int)).toBitVec.toInt = _
  rw [Int64.toBitVec_or, bt_of64, bt_of64, ← BitVec.ofNat_or, bt_to64 (Nat.or_lt_two_pow (n := 63) ha hb)]
theorem ixor_n {a b : Nat} (ha : a < 2147483648) (hb : b < 2147483648) : am_ixor (a : Int) (b : Int) = ((a ^^^ b : Nat) : Int) := by
  show (Int32.ofInt (a : Int) ^^^ Int32.ofInt (b : Int)).toBitVec.toInt = _
  rw [Int32.toBitVec_xor, bt_of32, bt_of32, ← BitVec.ofNat_xor, bt_to32 (Nat.xor_lt_two_pow (n := 31) ha hb)]
theorem sh32 : ∀ k : Nat, k < 32 → ((Int32.ofInt (k : Int) &&& 31).toBitVec.smod 32).toNat = k := by decide +kernel
theorem sh64 : ∀ k : Nat, k < 64 → (((Int32.ofInt (k : Int)).toInt64 &&& 63).toBitVec.smod 64).toNat = k := by decide +kernel
theorem bt_shl32 (a k : Nat) : BitVec.ofNat 32 a <<< k = BitVec.ofNat 32 (a * 2 ^ k) := by
  apply BitVec.eq_of_toNat_eq
  rw [BitVec.toNat_shiftLeft, BitVec.toNat_ofNat, BitVec.toNat_ofNat, Nat.shiftLeft_eq, Nat.mod_mul_mod]
theorem bt_shl64 (a k : Nat) : BitVec.ofNat 64 a <<< k = BitVec.ofNat 64 (a * 2 ^ k) := by
  apply BitVec.eq_of_toNat_eq
  rw [BitVec.toNat_shiftLeft, BitVec.toNat_ofNat, BitVec.toNat_ofNat, Nat.shiftLeft_eq, Nat.mod_mul_mod]
theorem ishl_n {a k : Nat} (hk : k < 32) (h : a * 2 ^ k < 2147483648) : am_ishl (a : Int) (k : Int) = ((a * 2 ^ k : Nat) : Int) := by
  show (Int32.ofInt (a : Int) <<< (Int32.ofInt (k : Int) &&& 31)).toBitVec.toInt = _
  rw [Int32.toBitVec_shiftLeft, bt_of32, BitVec.shiftLeft_eq', sh32 k hk, bt_shl32, bt_to32 h]
theorem lshl_n {a k : Nat} (hk : k < 64) (h : a * 2 ^ k < 9223372036854775808) : am_lshl (a : Int) (k : Int) = ((a * 2 ^ k : Nat) : Int) := by
  show (Int64.ofInt (a : Int) <<< ((Int32.ofInt (k : Int)).toInt64 &&& 63)).toBitVec.toInt = _
  rw [Int64.toBitVec_shiftLeft, bt_of64, BitVec.shiftLeft_eq', sh64 k hk, bt_shl64, bt_to64 h]
theorem bt_msb32 {a : Nat} (h : a < 2147483648) : (BitVec.ofNat 32 a).msb = false := by
  rw [BitVec.msb_eq_decide, BitVec.toNat_ofNat]
  simp
  omega
theorem bt_msb64 {a : Nat} (h : a < 9223372036854775808) : (BitVec.ofNat 64 a).msb = false := by
  rw [BitVec.msb_eq_decide, BitVec.toNat_ofNat]
  simp
  omega
theorem ishr_n {a k : Nat} (hk : k < 32) (h : a < 2147483648) : am_ishr (a : Int) (k : Int) = ((a / 2 ^ k : Nat) : Int) := by
  show (Int32.ofInt (a : Int) >>> (Int32.ofInt (k : Int) &&& 31)).toBitVec.toInt = _
  have e : (BitVec.ofNat 32 a).sshiftRight k = BitVec.ofNat 32 (a / 2 ^ k) := by
    apply BitVec.eq_of_toNat_eq
    rw [BitVec.toNat_sshiftRight_of_msb_false (bt_msb32 h), BitVec.toNat_ofNat, BitVec.toNat_ofNat, Nat.shiftRight_eq_div_pow, Nat.mod_eq_of_lt (by omega : a < 2 ^ 32), Nat.mod_eq_of_lt (by have := Nat.div_le_self a (2 ^ k); omega)]
  rw [Int32.toBitVec_shiftRight, bt_of32]
  show ((BitVec.ofNat 32 a).sshiftRight _).toInt = _
  rw [sh32 k hk, e, bt_to32 (Nat.lt_of_le_of_lt (Nat.div_le_self _ _) h)]
theorem lshr_n {a k : Nat} (hk : k < 64) (h : a < 9223372036854775808) : am_lshr (a : Int) (k : Int) = ((a / 2 ^ k : Nat) : Int) := by
  show (Int64.ofInt (a : Int) >>> ((Int32.ofInt (k : Int)).toInt64 &&& 63)).toBitVec.toInt = _
  have e : (BitVec.ofNat 64 a).sshiftRight k = BitVec.ofNat 64 (a / 2 ^ k) := by
    apply BitVec.eq_of_toNat_eq
    rw [BitVec.toNat_sshiftRight_of_msb_false (bt_msb64 h), BitVec.toNat_ofNat, BitVec.toNat_ofNat, Nat.shiftRight_eq_div_pow, Nat.mod_eq_of_lt (by omega : a < 2 ^ 64), Nat.mod_eq_of_lt (by have := Nat.div_le_self a (2 ^ k); omega)]
  rw [Int64.toBitVec_shiftRight, bt_of64]
  show ((BitVec.ofNat 64 a).sshiftRight _).toInt = _
  rw [sh64 k hk, e, bt_to64 (Nat.lt_of_le_of_lt (Nat.div_le_self _ _) h)]
/-- a bit of a set -/
theorem bit_n {s k : Nat} (hk : k < 32) (hs : s < 2147483648) : am_iand (am_ishr (s : Int) (k : Int)) 1 = if s.testBit k then 1 else 0 := by
  rw [ishr_n hk hs, show (1 : Int) = ((1 : Nat) : Int) from rfl, iand_n (Nat.lt_of_le_of_lt (Nat.div_le_self _ _) hs)]
  rw [Nat.and_one_is_mod, Nat.testBit_eq_decide_div_mod_eq]
  have := Nat.mod_two_eq_zero_or_one (s / 2 ^ k)
  rcases this with h | h <;> simp [h]
theorem lbit_n {s k : Nat} (hk : k < 64) (hs : s < 9223372036854775808) : am_land (am_lshr (s : Int) (k : Int)) 1 = if s.testBit k then 1 else 0 := by
  rw [lshr_n hk hs, show (1 : Int) = ((1 : Nat) : Int) from rfl, land_n (Nat.lt_of_le_of_lt (Nat.div_le_self _ _) hs)]
  rw [Nat.and_one_is_mod, Nat.testBit_eq_decide_div_mod_eq]
  have := Nat.mod_two_eq_zero_or_one (s / 2 ^ k)
  rcases this with h | h <;> simp [h]
