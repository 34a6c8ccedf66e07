/-! shifts of numbers that are not below 0 -/
theorem bt_63 {y : Int} (h0 : 0 ≤ y) (h1 : y < 64) : (Int32.ofInt y).toInt64 &&& 63 = Int64.ofInt y := by
  obtain ⟨n, rfl⟩ := Int.eq_ofNat_of_zero_le h0
  have : n < 64 := by omega
  have key : ∀ n : Nat, n < 64 → (Int32.ofInt (n : Int)).toInt64 &&& 63 = Int64.ofInt (n : Int) := by decide +kernel
  exact key n this
theorem bt_31 {y : Int} (h0 : 0 ≤ y) (h1 : y < 32) : (Int32.ofInt y) &&& 31 = Int32.ofInt y := by
  obtain ⟨n, rfl⟩ := Int.eq_ofNat_of_zero_le h0
  have : n < 32 := by omega
  have key : ∀ n : Nat, n < 32 → (Int32.ofInt (n : Int)) &&& 31 = Int32.ofInt (n : Int) := by decide +kernel
  exact key n this
theorem bt_lshl {x y : Int} (hx : 0 ≤ x) (hy : 0 ≤ y) (hy1 : y < 63) (hxy : x * 2 ^ y.toNat < 9223372036854775808) : am_lshl x y = x * 2 ^ y.toNat := by
  unfold am_lshl
  rw [bt_63 hy (by omega)]
  obtain ⟨n, rfl⟩ := Int.eq_ofNat_of_zero_le hx
  obtain ⟨k, rfl⟩ := Int.eq_ofNat_of_zero_le hy
  simp only [Int.toNat_natCast] at hxy ⊢
  have hk : k < 63 := by omega
  have hp : 0 < 2 ^ k := Nat.two_pow_pos k
  have hxy' : n * 2 ^ k < 9223372036854775808 := by
    have : ((n * 2 ^ k : Nat) : Int) < 9223372036854775808 := by push_cast; exact hxy
    omega
  have hn : n < 9223372036854775808 := Nat.lt_of_le_of_lt (Nat.le_mul_of_pos_right n hp) hxy'
  rw [← Int64.toInt_toBitVec]
  have e : (Int64.ofInt (n : Int) <<< Int64.ofInt (k : Int)).toBitVec = (Int64.ofInt (n : Int)).toBitVec <<< k := by
    show (Int64.ofInt (n : Int)).toBitVec <<< ((Int64.ofInt (k : Int)).toBitVec.smod 64) = _
    have key : ∀ k : Nat, k < 63 → (Int64.ofInt (k : Int)).toBitVec.smod 64 = BitVec.ofNat 64 k := by decide +kernel
    rw [key k hk]
    show BitVec.shiftLeft _ (BitVec.ofNat 64 k).toNat = _
    rw [BitVec.toNat_ofNat, Nat.mod_eq_of_lt (by omega)]
    rfl
  rw [e]
  have h2 : ((Int64.ofInt (n : Int)).toBitVec <<< k).toNat = n * 2 ^ k := by
    rw [BitVec.toNat_shiftLeft, bt_L (by omega) (by omega), Int.toNat_natCast, Nat.shiftLeft_eq, Nat.mod_eq_of_lt (by omega)]
  rw [BitVec.toInt_eq_toNat_of_lt (by rw [h2]; omega), h2]
  push_cast
  rfl
theorem bt_lshr {x y : Int} (hx : 0 ≤ x) (hx1 : x < 9223372036854775808) (hy : 0 ≤ y) (hy1 : y < 63) : am_lshr x y = x / 2 ^ y.toNat := by
  unfold am_lshr
  rw [bt_63 hy (by omega)]
  obtain ⟨n, rfl⟩ := Int.eq_ofNat_of_zero_le hx
  obtain ⟨k, rfl⟩ := Int.eq_ofNat_of_zero_le hy
  simp only [Int.toNat_natCast]
  have hk : k < 63 := by omega
  rw [← Int64.toInt_toBitVec]
  have e : (Int64.ofInt (n : Int) >>> Int64.ofInt (k : Int)).toBitVec = (Int64.ofInt (n : Int)).toBitVec.sshiftRight k := by
    show BitVec.sshiftRight' (Int64.ofInt (n : Int)).toBitVec ((Int64.ofInt (k : Int)).toBitVec.smod 64) = _
    have key : ∀ k : Nat, k < 63 → (Int64.ofInt (k : Int)).toBitVec.smod 64 = BitVec.ofNat 64 k := by decide +kernel
    rw [key k hk]
    show BitVec.sshiftRight _ (BitVec.ofNat 64 k).toNat = _
    rw [BitVec.toNat_ofNat, Nat.mod_eq_of_lt (by omega)]
  rw [e, BitVec.toInt_sshiftRight, Int64.toInt_toBitVec, am_oL_to ⟨by omega, by omega⟩, Int.shiftRight_eq_div_pow]
  push_cast
  rfl
theorem bt_shl {x y : Int} (hx : 0 ≤ x) (hy : 0 ≤ y) (hy1 : y < 31) (hxy : x * 2 ^ y.toNat < 2147483648) : am_shl x y = x * 2 ^ y.toNat := by
  unfold am_shl
  rw [bt_31 hy (by omega)]
  obtain ⟨n, rfl⟩ := Int.eq_ofNat_of_zero_le hx
  obtain ⟨k, rfl⟩ := Int.eq_ofNat_of_zero_le hy
  simp only [Int.toNat_natCast] at hxy ⊢
  have hk : k < 31 := by omega
  have hp : 0 < 2 ^ k := Nat.two_pow_pos k
  have hxy' : n * 2 ^ k < 2147483648 := by
    have : ((n * 2 ^ k : Nat) : Int) < 2147483648 := by push_cast; exact hxy
    omega
  have hn : n < 2147483648 := Nat.lt_of_le_of_lt (Nat.le_mul_of_pos_right n hp) hxy'
  rw [← Int32.toInt_toBitVec]
  have e : (Int32.ofInt (n : Int) <<< Int32.ofInt (k : Int)).toBitVec = (Int32.ofInt (n : Int)).toBitVec <<< k := by
    show (Int32.ofInt (n : Int)).toBitVec <<< ((Int32.ofInt (k : Int)).toBitVec.smod 32) = _
    have key : ∀ k : Nat, k < 31 → (Int32.ofInt (k : Int)).toBitVec.smod 32 = BitVec.ofNat 32 k := by decide +kernel
    rw [key k hk]
    show BitVec.shiftLeft _ (BitVec.ofNat 32 k).toNat = _
    rw [BitVec.toNat_ofNat, Nat.mod_eq_of_lt (by omega)]
    rfl
  rw [e]
  have h2 : ((Int32.ofInt (n : Int)).toBitVec <<< k).toNat = n * 2 ^ k := by
    rw [BitVec.toNat_shiftLeft, bt_I (by omega) (by omega), Int.toNat_natCast, Nat.shiftLeft_eq, Nat.mod_eq_of_lt (by omega)]
  rw [BitVec.toInt_eq_toNat_of_lt (by rw [h2]; omega), h2]
  push_cast
  rfl
/-- also of numbers below 0 -/
theorem bt_shr {x y : Int} (hx : am_inI x) (hy : 0 ≤ y) (hy1 : y < 31) : am_shr x y = x / 2 ^ y.toNat := by
  unfold am_shr
  rw [bt_31 hy (by omega)]
  obtain ⟨k, rfl⟩ := Int.eq_ofNat_of_zero_le hy
  simp only [Int.toNat_natCast]
  have hk : k < 31 := by omega
  rw [← Int32.toInt_toBitVec]
  have e : (Int32.ofInt x >>> Int32.ofInt (k : Int)).toBitVec = (Int32.ofInt x).toBitVec.sshiftRight k := by
    show BitVec.sshiftRight' (Int32.ofInt x).toBitVec ((Int32.ofInt (k : Int)).toBitVec.smod 32) = _
    have key : ∀ k : Nat, k < 31 → (Int32.ofInt (k : Int)).toBitVec.smod 32 = BitVec.ofNat 32 k := by decide +kernel
    rw [key k hk]
    show BitVec.sshiftRight _ (BitVec.ofNat 32 k).toNat = _
    rw [BitVec.toNat_ofNat, Nat.mod_eq_of_lt (by omega)]
  rw [e, BitVec.toInt_sshiftRight, Int32.toInt_toBitVec, am_oI_to hx, Int.shiftRight_eq_div_pow]
  push_cast
  rfl
theorem bt_or {x y : Int} (hx : 0 ≤ x) (hx1 : x < 2147483648) (hy : 0 ≤ y) (hy1 : y < 2147483648) : am_or x y = ((x.toNat ||| y.toNat : Nat) : Int) := by
  unfold am_or
  rw [← Int32.toInt_toBitVec, Int32.toBitVec_or]
  have h1 : ((Int32.ofInt x).toBitVec ||| (Int32.ofInt y).toBitVec).toNat = x.toNat ||| y.toNat := by rw [BitVec.toNat_or, bt_I hx hx1, bt_I hy hy1]
  have h2 : x.toNat ||| y.toNat < 2 ^ 31 := Nat.or_lt_two_pow (by omega) (by omega)
  rw [BitVec.toInt_eq_toNat_of_lt (by rw [h1]; omega), h1]
/-- the lowest k bits of any number -/
theorem bt_mask {x : Int} (hx : am_inI x) (k : Nat) (hk : k < 31) : am_and x (2 ^ k - 1) = x % 2 ^ k := by
  have hp : (2 : Int) ^ k ≤ 2 ^ 30 := by
    have : (2 : Nat) ^ k ≤ 2 ^ 30 := Nat.pow_le_pow_right (by omega) (by omega)
    have h2 : ((2 ^ k : Nat) : Int) ≤ ((2 ^ 30 : Nat) : Int) := by omega
    simpa using h2
  have hp1 : (0 : Int) < 2 ^ k := by
    have : 0 < (2 : Nat) ^ k := Nat.two_pow_pos k
    have h2 : (0 : Int) < ((2 ^ k : Nat) : Int) := by omega
    simpa using h2
  unfold am_and
  rw [← Int32.toInt_toBitVec, Int32.toBitVec_and]
  have h1 : (Int32.ofInt (2 ^ k - 1)).toBitVec.toNat = 2 ^ k - 1 := by
    rw [bt_I (by omega) (by omega)]
    have : ((2 : Int) ^ k - 1).toNat = 2 ^ k - 1 := by
      have h3 : (2 : Int) ^ k = ((2 ^ k : Nat) : Int) := by simp
      rw [h3]
      omega
    exact this
  have h2 : ((Int32.ofInt x).toBitVec &&& (Int32.ofInt (2 ^ k - 1)).toBitVec).toNat = (Int32.ofInt x).toBitVec.toNat % 2 ^ k := by
    rw [BitVec.toNat_and, h1, Nat.and_two_pow_sub_one_eq_mod]
  have hm : (Int32.ofInt x).toBitVec.toNat % 2 ^ k < 2 ^ k := Nat.mod_lt _ (Nat.two_pow_pos k)
  have hp2 : (2 : Nat) ^ k ≤ 2 ^ 30 := Nat.pow_le_pow_right (by omega) (by omega)
  rw [BitVec.toInt_eq_toNat_of_lt (by rw [h2]; omega), h2]
  have h3 : (((Int32.ofInt x).toBitVec.toNat : Nat) : Int) = x % 2 ^ 32 := by
    rw [Int32.toBitVec_ofInt, BitVec.toNat_ofInt]
    have e : ((2 ^ 32 : Nat) : Int) = 2 ^ 32 := by decide +kernel
    have h5 : 0 ≤ x % ((2 ^ 32 : Nat) : Int) := Int.emod_nonneg _ (by rw [e]; decide +kernel)
    rw [Int.toNat_of_nonneg h5, e]
  rw [Int.natCast_emod, h3]
  have h4 : ((2 ^ k : Nat) : Int) = 2 ^ k := by simp
  rw [h4]
  exact Int.emod_emod_of_dvd x (by
    have : (2 : Int) ^ 32 = 2 ^ k * 2 ^ (32 - k) := by rw [← Int.pow_add]; congr 1; omega
    rw [this]
    exact Int.dvd_mul_right _ _)
