/-! LEVEL 3, bits taken out of a set -/
theorem m1_32 : (Int32.ofInt (-1)).toBitVec = BitVec.ofNat 32 4294967295 := by decide +kernel
theorem m1_64 : (Int64.ofInt (-1)).toBitVec = BitVec.ofNat 64 18446744073709551615 := by decide +kernel
theorem andn_n {a b : Nat} (ha : a < 2147483648) : am_iand (a : Int) (am_ixor (b : Int) (-1)) = ((a &&& (b ^^^ 4294967295) : Nat) : Int) := by
  show (Int32.ofInt (a : Int) &&& Int32.ofInt ((Int32.ofInt (b : Int) ^^^ Int32.ofInt (-1)).toInt)).toBitVec.toInt = _
  rw [Int32.ofInt_toInt, Int32.toBitVec_and, Int32.toBitVec_xor, bt_of32, bt_of32, m1_32, ← BitVec.ofNat_xor, ← BitVec.ofNat_and, bt_to32 (Nat.lt_of_le_of_lt Nat.and_le_left ha)]
theorem landn_n {a b : Nat} (ha : a < 9223372036854775808) : am_land (a : Int) (am_lxor (b : Int) (-1)) = ((a &&& (b ^^^ 18446744073709551615) : Nat) : Int) := by
  show (Int64.ofInt (a : Int) &&& Int64.ofInt ((Int64.ofInt (b : Int) ^^^ Int64.ofInt (-1)).toInt)).toBitVec.toInt = _
  rw [Int64.ofInt_toInt, Int64.toBitVec_and, Int64.toBitVec_xor, bt_of64, bt_of64, m1_64, ← BitVec.ofNat_xor, ← BitVec.ofNat_and, bt_to64 (Nat.lt_of_le_of_lt Nat.and_le_left ha)]
theorem andn_bit {a b i : Nat} (ha : a < 2147483648) : (a &&& (b ^^^ 4294967295)).testBit i = (a.testBit i && !b.testBit i) := by
  rw [Nat.testBit_and, Nat.testBit_xor, show (4294967295 : Nat) = 2 ^ 32 - 1 from rfl, Nat.testBit_two_pow_sub_one]
  by_cases c : i < 32
  · simp [c]
  · rw [Nat.testBit_lt_two_pow (Nat.lt_of_lt_of_le ha (Nat.pow_le_pow_right (n := 2) (by decide) (show 31 ≤ i by omega)))]
    simp
theorem landn_bit {a b i : Nat} (ha : a < 9223372036854775808) : (a &&& (b ^^^ 18446744073709551615)).testBit i = (a.testBit i && !b.testBit i) := by
  rw [Nat.testBit_and, Nat.testBit_xor, show (18446744073709551615 : Nat) = 2 ^ 64 - 1 from rfl, Nat.testBit_two_pow_sub_one]
  by_cases c : i < 64
  · simp [c]
  · rw [Nat.testBit_lt_two_pow (Nat.lt_of_lt_of_le ha (Nat.pow_le_pow_right (n := 2) (by decide) (show 63 ≤ i by omega)))]
    simp
/-- sets of less than n that hold the same are the same -/
theorem bits_ext {a b n : Nat} (ha : a < 2 ^ n) (hb : b < 2 ^ n) (h : ∀ i, i < n → a.testBit i = b.testBit i) : a = b := by
  apply Nat.eq_of_testBit_eq
  intro i
  by_cases c : i < n
  · exact h i c
  · have e : 2 ^ n ≤ 2 ^ i := Nat.pow_le_pow_right (by decide) (by omega)
    rw [Nat.testBit_lt_two_pow (by omega), Nat.testBit_lt_two_pow (by omega)]
theorem landn_span {a b : Nat} (ha : a < 2 ^ 40) : a &&& (b ^^^ 18446744073709551615) = bset (fun i => a.testBit i && !b.testBit i) 40 := by
  refine bits_ext (n := 40) (Nat.lt_of_le_of_lt Nat.and_le_left ha) (bset_lt 40) (fun i hi => ?_)
  rw [landn_bit (by omega), bset_bit]
  simp [hi]
/-- what is broken is none of what is named -/
theorem bk_and {ρ : Rd} {s bk : Nat} (h1 : bk < 256) (h2 : ∀ f, f < 8 → bk.testBit f = decide (ρ f 3 = 1)) : (bkn ρ s = true → ¬ s &&& bk = 0) ∧ (¬ bkn ρ s = true → s &&& bk = 0) := by
  constructor
  · intro q z
    obtain ⟨f, hf, q1, q2⟩ := bkn_iff.mp q
    have e : (s &&& bk).testBit f = true := by rw [Nat.testBit_and, q1, h2 f hf, q2]; rfl
    rw [z] at e
    simp at e
  · intro q
    refine bits_ext (n := 8) (Nat.lt_of_le_of_lt Nat.and_le_right h1) (by decide) (fun f hf => ?_)
    rw [Nat.testBit_and, h2 f hf, Nat.zero_testBit]
    cases c : s.testBit f with
    | false => rfl
    | true =>
      by_cases c2 : ρ f 3 = 1
      · exact absurd (bkn_iff.mpr ⟨f, hf, c, c2⟩) q
      · simp [c2]
theorem pow_bit {f i : Nat} : (2 ^ f).testBit i = decide (f = i) := Nat.testBit_two_pow
theorem nx_lt {l : Bool} : ∀ e s, ws l e s → nx e < 256 := by
  refine ex_ind (fun v h0 h1 => by simp [nx]) (fun k q => ?_) (fun t a ht _ ih => ih) (fun a _ ih => ih) (fun t a c _ _ _ _ i1 i2 => ?_) (fun t a c h0 h1 _ _ i1 i2 => ?_) (fun t a c ht _ _ i1 i2 => ?_) (fun c a e _ _ _ i1 i2 i3 => ?_)
  · simp only [nx]
    split
    · exact Nat.pow_lt_pow_right (n := 8) (by decide) (by assumption)
    · decide
  · simp only [nx]; exact Nat.or_lt_two_pow (n := 8) i1 i2
  · simp only [nx]; exact Nat.or_lt_two_pow (n := 8) i1 i2
  · simp only [nx]; exact Nat.or_lt_two_pow (n := 8) i1 i2
  · simp only [nx]; exact Nat.or_lt_two_pow (n := 8) (Nat.or_lt_two_pow (n := 8) i1 i2) i3
theorem ishl1 {k : Nat} (hk : k < 31) : am_ishl 1 (k : Int) = ((2 ^ k : Nat) : Int) := by
  have p : 2 ^ k < 2 ^ 31 := Nat.pow_lt_pow_right (by decide) hk
  have := ishl_n (a := 1) (k := k) (by omega) (by omega)
  rw [Nat.one_mul] at this
  exact this
theorem lshl1 {k : Nat} (hk : k < 63) : am_lshl 1 (k : Int) = ((2 ^ k : Nat) : Int) := by
  have p : 2 ^ k < 2 ^ 63 := Nat.pow_lt_pow_right (by decide) hk
  have := lshl_n (a := 1) (k := k) (by omega) (by omega)
  rw [Nat.one_mul] at this
  exact this
