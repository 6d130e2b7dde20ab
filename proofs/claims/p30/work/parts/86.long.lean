/-! long numbers: what the keys of states want -/
theorem l64_of {n : Nat} (h : n < 9223372036854775808) : (Int64.ofInt (n : Int)).toBitVec.toNat = n := by
  have e : (Int64.ofInt (n : Int)).toBitVec = BitVec.ofInt 64 (n : Int) := rfl
  rw [e, BitVec.ofInt_natCast, BitVec.toNat_ofNat]
  exact Nat.mod_eq_of_lt (by omega)
theorem l64_to {u : Int64} {m : Nat} (h : u.toBitVec.toNat = m) (hm : m < 9223372036854775808) : u.toInt = (m : Int) := by
  have e : u.toInt = u.toBitVec.toInt := rfl
  rw [e, BitVec.toInt_eq_toNat_of_lt (by omega), h]
theorem kland_ok {x : Int} (k : Nat) (hk : k < 62) (h0 : 0 ≤ x) (h1 : x < 9223372036854775808) : kland x (((2 ^ k - 1 : Nat)) : Int) = x % ((2 ^ k : Nat) : Int) := by
  obtain ⟨n, rfl⟩ := Int.eq_ofNat_of_zero_le h0
  have hp : 2 ^ k ≤ 2 ^ 62 := Nat.pow_le_pow_right (by decide) (by omega)
  have hp0 : 0 < 2 ^ k := Nat.two_pow_pos k
  have e : (Int64.ofInt (n : Int) &&& Int64.ofInt (((2 ^ k - 1 : Nat)) : Int)).toBitVec.toNat = n % 2 ^ k := by
    rw [Int64.toBitVec_and, BitVec.toNat_and, l64_of (by omega), l64_of (by omega), Nat.and_two_pow_sub_one_eq_mod]
  have hl := Nat.mod_lt n hp0
  unfold kland
  rw [l64_to e (by omega)]
  exact Int.natCast_emod n (2 ^ k)
theorem kland_3 {x : Int} (h0 : 0 ≤ x) (h1 : x < 9223372036854775808) : kland x 3 = x % 4 := kland_ok 2 (by decide) h0 h1
theorem kland_255 {x : Int} (h0 : 0 ≤ x) (h1 : x < 9223372036854775808) : kland x 255 = x % 256 := kland_ok 8 (by decide) h0 h1
theorem klshl_2 {x : Int} (h0 : 0 ≤ x) (h1 : x < 2305843009213693952) : klshl x 2 = 4 * x := by
  obtain ⟨n, rfl⟩ := Int.eq_ofNat_of_zero_le h0
  have es : ((Int32.ofInt 2).toInt64 &&& 63) = 2 := by decide
  have e2 : (BitVec.smod (2 : Int64).toBitVec 64).toNat = 2 := by decide
  have e : (Int64.ofInt (n : Int) <<< (2 : Int64)).toBitVec.toNat = 4 * n := by
    rw [Int64.toBitVec_shiftLeft, BitVec.shiftLeft_eq', e2, BitVec.toNat_shiftLeft, l64_of (by omega), Nat.shiftLeft_eq]
    omega
  unfold klshl
  rw [es, l64_to e (by omega)]
  omega
theorem klshl_10 {x : Int} (h0 : 0 ≤ x) (h1 : x < 9007199254740992) : klshl x 10 = 1024 * x := by
  obtain ⟨n, rfl⟩ := Int.eq_ofNat_of_zero_le h0
  have es : ((Int32.ofInt 10).toInt64 &&& 63) = 10 := by decide
  have e2 : (BitVec.smod (10 : Int64).toBitVec 64).toNat = 10 := by decide
  have e : (Int64.ofInt (n : Int) <<< (10 : Int64)).toBitVec.toNat = 1024 * n := by
    rw [Int64.toBitVec_shiftLeft, BitVec.shiftLeft_eq', e2, BitVec.toNat_shiftLeft, l64_of (by omega), Nat.shiftLeft_eq]
    omega
  unfold klshl
  rw [es, l64_to e (by omega)]
  omega
theorem klushr_2 {x : Int} (h0 : 0 ≤ x) (h1 : x < 9223372036854775808) : klushr x 2 = x / 4 := by
  obtain ⟨n, rfl⟩ := Int.eq_ofNat_of_zero_le h0
  have es : ((Int32.ofInt 2).toInt64.toUInt64 &&& Int64.toUInt64 63) = 2 := by decide
  have e2 : ((2 : UInt64).toBitVec % 64).toNat = 2 := by decide
  have e : ((Int64.ofInt (n : Int)).toUInt64 >>> (2 : UInt64)).toInt64.toBitVec.toNat = n / 4 := by
    show ((Int64.ofInt (n : Int)).toUInt64 >>> (2 : UInt64)).toBitVec.toNat = n / 4
    rw [UInt64.toBitVec_shiftRight, BitVec.ushiftRight_eq', e2, BitVec.toNat_ushiftRight, Nat.shiftRight_eq_div_pow]
    show (Int64.ofInt (n : Int)).toBitVec.toNat / 2 ^ 2 = n / 4
    rw [l64_of (by omega)]
  unfold klushr
  rw [es, l64_to e (by omega)]
  omega
theorem klushr_10 {x : Int} (h0 : 0 ≤ x) (h1 : x < 9223372036854775808) : klushr x 10 = x / 1024 := by
  obtain ⟨n, rfl⟩ := Int.eq_ofNat_of_zero_le h0
  have es : ((Int32.ofInt 10).toInt64.toUInt64 &&& Int64.toUInt64 63) = 10 := by decide
  have e2 : ((10 : UInt64).toBitVec % 64).toNat = 10 := by decide
  have e : ((Int64.ofInt (n : Int)).toUInt64 >>> (10 : UInt64)).toInt64.toBitVec.toNat = n / 1024 := by
    show ((Int64.ofInt (n : Int)).toUInt64 >>> (10 : UInt64)).toBitVec.toNat = n / 1024
    rw [UInt64.toBitVec_shiftRight, BitVec.ushiftRight_eq', e2, BitVec.toNat_ushiftRight, Nat.shiftRight_eq_div_pow]
    show (Int64.ofInt (n : Int)).toBitVec.toNat / 2 ^ 10 = n / 1024
    rw [l64_of (by omega)]
  unfold klushr
  rw [es, l64_to e (by omega)]
  omega
theorem klor_ok {a b : Int} (k : Nat) (a0 : 0 ≤ a) (b0 : 0 ≤ b) (b1 : b < ((2 ^ k : Nat) : Int)) (h : ((2 ^ k : Nat) : Int) * a + b < 9223372036854775808) : klor (((2 ^ k : Nat) : Int) * a) b = ((2 ^ k : Nat) : Int) * a + b := by
  obtain ⟨n, rfl⟩ := Int.eq_ofNat_of_zero_le a0
  obtain ⟨m, rfl⟩ := Int.eq_ofNat_of_zero_le b0
  have hm : m < 2 ^ k := by omega
  have e0 : ((2 ^ k : Nat) : Int) * (n : Int) = ((2 ^ k * n : Nat) : Int) := (Int.natCast_mul (2 ^ k) n).symm
  have hn : 2 ^ k * n + m < 9223372036854775808 := by
    rw [e0] at h
    omega
  have e : (Int64.ofInt ((2 ^ k * n : Nat) : Int) ||| Int64.ofInt (m : Int)).toBitVec.toNat = 2 ^ k * n + m := by
    rw [Int64.toBitVec_or, BitVec.toNat_or, l64_of (by omega), l64_of (by omega)]
    have := Nat.shiftLeft_add_eq_or_of_lt hm n
    rw [Nat.shiftLeft_eq, Nat.mul_comm n] at this
    exact this.symm
  rw [e0]
  unfold klor
  rw [l64_to e (by omega)]
  exact Int.natCast_add _ _
theorem klor_4 {a b : Int} (a0 : 0 ≤ a) (b0 : 0 ≤ b) (b1 : b < 4) (h : 4 * a + b < 9223372036854775808) : klor (4 * a) b = 4 * a + b := klor_ok 2 a0 b0 b1 h
theorem klor_1024 {a b : Int} (a0 : 0 ≤ a) (b0 : 0 ≤ b) (b1 : b < 1024) (h : 1024 * a + b < 9223372036854775808) : klor (1024 * a) b = 1024 * a + b := klor_ok 10 a0 b0 b1 h
theorem kl2i_ok {x : Int} (h0 : 0 ≤ x) (h1 : x < 2147483648) : kl2i x = x := by
  obtain ⟨n, rfl⟩ := Int.eq_ofNat_of_zero_le h0
  unfold kl2i
  rw [Int64.toInt_toInt32, l64_to (l64_of (n := n) (by omega)) (by omega), ← w32_bmod]
  exact w32_ok (by omega) h1
theorem ki2l_ok {x : Int} (h0 : 0 ≤ x) (h1 : x < 2147483648) : ki2l x = x := by
  unfold ki2l
  rw [Int32.toInt_toInt64, of_toInt ⟨by omega, by omega⟩]
