/-! ===== w: bits ===== -/
theorem wb_bit : ∀ a, a < 128 → ∀ u, u < 7 → (zN a >>> (zN u &&& zN 31)) &&& zN 1 = zN (a / 2 ^ u % 2) := by decide +kernel
theorem wb_one : ∀ u, u < 9 → zN 1 <<< (zN u &&& zN 31) = zN (2 ^ u) := by decide +kernel
theorem wb_or : ∀ a, a < 128 → ∀ b, b < 128 → zN a ||| zN b = zN (a ||| b) := by decide +kernel
theorem wb_set : ∀ a, a < 128 → ∀ u, u < 7 → a / 2 ^ u % 2 = 0 → a ||| 2 ^ u = a + 2 ^ u ∧ a + 2 ^ u < 128 := by decide +kernel
def zpc (a : Nat) : Nat := a / 1 % 2 + a / 2 % 2 + a / 4 % 2 + a / 8 % 2 + a / 16 % 2 + a / 32 % 2 + a / 64 % 2
theorem wb_pc : ∀ a, a < 128 → ∀ u, u < 7 → a / 2 ^ u % 2 = 0 → zpc (a + 2 ^ u) = zpc a + 1 := by decide +kernel
theorem wb_full : ∀ n, n < 8 → ∀ a, a < 2 ^ n → ((a = 2 ^ n - 1) = (zpc a = n)) := by
  have : ∀ n, n < 8 → ∀ a, a < 2 ^ n → (a = 2 ^ n - 1 ↔ zpc a = n) := by decide +kernel
  exact fun n hn a ha => propext (this n hn a ha)
theorem wb_lt : ∀ n, n < 8 → ∀ a, a < 2 ^ n → ∀ u, u < n → a / 2 ^ u % 2 = 0 → a + 2 ^ u < 2 ^ n := by decide +kernel
/-- leaps as one long -/
def zQ64 (n : Nat) : Int64 := Int64.ofNat n
def zlg (s w l : Nat) : Nat := (s * 4096 + w) * 4096 + l
theorem q64_bv (n : Nat) : (zQ64 n).toBitVec = BitVec.ofNat 64 n := rfl
theorem q64_shr12 {n : Nat} (hn : n < 9223372036854775808) : zQ64 n >>> ((zN 12).toInt64 &&& 63) = zQ64 (n / 4096) := by
  apply Int64.toBitVec_inj.1
  rw [Int64.toBitVec_shiftRight, q64_bv, q64_bv, show ((zN 12).toInt64 &&& 63).toBitVec.smod 64 = 12#64 by decide]
  have hm : (BitVec.ofNat 64 n).msb = false := by
    rw [BitVec.msb_eq_false_iff_two_mul_lt, BitVec.toNat_ofNat, Nat.mod_eq_of_lt (by omega)]
    omega
  show BitVec.sshiftRight (BitVec.ofNat 64 n) 12 = _
  rw [BitVec.sshiftRight_eq_of_msb_false hm]
  apply BitVec.eq_of_toNat_eq
  rw [BitVec.toNat_ushiftRight, BitVec.toNat_ofNat, BitVec.toNat_ofNat, Nat.mod_eq_of_lt (by omega), Nat.mod_eq_of_lt (by omega), Nat.shiftRight_eq_div_pow]
theorem q64_shr24 {n : Nat} (hn : n < 9223372036854775808) : zQ64 n >>> ((zN 24).toInt64 &&& 63) = zQ64 (n / 16777216) := by
  apply Int64.toBitVec_inj.1
  rw [Int64.toBitVec_shiftRight, q64_bv, q64_bv, show ((zN 24).toInt64 &&& 63).toBitVec.smod 64 = 24#64 by decide]
  have hm : (BitVec.ofNat 64 n).msb = false := by
    rw [BitVec.msb_eq_false_iff_two_mul_lt, BitVec.toNat_ofNat, Nat.mod_eq_of_lt (by omega)]
    omega
  show BitVec.sshiftRight (BitVec.ofNat 64 n) 24 = _
  rw [BitVec.sshiftRight_eq_of_msb_false hm]
  apply BitVec.eq_of_toNat_eq
  rw [BitVec.toNat_ushiftRight, BitVec.toNat_ofNat, BitVec.toNat_ofNat, Nat.mod_eq_of_lt (by omega), Nat.mod_eq_of_lt (by omega), Nat.shiftRight_eq_div_pow]
theorem q64_i32 (n : Nat) : (zQ64 n).toInt32 = zN n := by
  apply Int32.toBitVec_inj.1
  rw [Int64.toBitVec_toInt32, q64_bv]
  show BitVec.signExtend 32 (BitVec.ofNat 64 n) = BitVec.ofNat 32 n
  rw [BitVec.signExtend_eq_setWidth_of_le _ (by omega)]
  apply BitVec.eq_of_toNat_eq
  rw [BitVec.toNat_setWidth, BitVec.toNat_ofNat, BitVec.toNat_ofNat]
  omega
theorem zN_4095 (n : Nat) : zN n &&& zN 4095 = zN (n % 4096) := by
  apply Int32.toBitVec_inj.1
  show BitVec.ofNat 32 n &&& BitVec.ofNat 32 4095 = BitVec.ofNat 32 (n % 4096)
  apply BitVec.eq_of_toNat_eq
  rw [BitVec.toNat_and, BitVec.toNat_ofNat, BitVec.toNat_ofNat, BitVec.toNat_ofNat]
  rw [show (4095 % 2 ^ 32) = 2 ^ 12 - 1 by decide, Nat.and_two_pow_sub_one_eq_mod]
  omega
theorem q64_of {n : Nat} (hn : n < 2147483648) : (zN n).toInt64 = zQ64 n := by
  apply Int64.toBitVec_inj.1
  rw [Int32.toBitVec_toInt64, q64_bv]
  show BitVec.signExtend 64 (BitVec.ofNat 32 n) = BitVec.ofNat 64 n
  have hm : (BitVec.ofNat 32 n).msb = false := by
    rw [BitVec.msb_eq_false_iff_two_mul_lt, BitVec.toNat_ofNat, Nat.mod_eq_of_lt (by omega)]
    omega
  rw [BitVec.signExtend_eq_setWidth_of_msb_false hm]
  apply BitVec.eq_of_toNat_eq
  rw [BitVec.toNat_setWidth, BitVec.toNat_ofNat, BitVec.toNat_ofNat, Nat.mod_eq_of_lt (show n < 2 ^ 32 by omega)]
theorem q64_shl12 {n : Nat} (hn : n < 2147483648) : zQ64 n <<< ((zN 12).toInt64 &&& 63) = zQ64 (n * 4096) := by
  apply Int64.toBitVec_inj.1
  rw [Int64.toBitVec_shiftLeft, q64_bv, q64_bv, show ((zN 12).toInt64 &&& 63).toBitVec.smod 64 = 12#64 by decide]
  show BitVec.shiftLeft (BitVec.ofNat 64 n) 12 = _
  apply BitVec.eq_of_toNat_eq
  show (BitVec.ofNat 64 n <<< 12).toNat = _
  rw [BitVec.toNat_shiftLeft, BitVec.toNat_ofNat, BitVec.toNat_ofNat, Nat.mod_eq_of_lt (show n < 2 ^ 64 by omega), Nat.shiftLeft_eq]
theorem q64_shl24 {n : Nat} (hn : n < 2147483648) : zQ64 n <<< ((zN 24).toInt64 &&& 63) = zQ64 (n * 16777216) := by
  apply Int64.toBitVec_inj.1
  rw [Int64.toBitVec_shiftLeft, q64_bv, q64_bv, show ((zN 24).toInt64 &&& 63).toBitVec.smod 64 = 24#64 by decide]
  show BitVec.shiftLeft (BitVec.ofNat 64 n) 24 = _
  apply BitVec.eq_of_toNat_eq
  show (BitVec.ofNat 64 n <<< 24).toNat = _
  rw [BitVec.toNat_shiftLeft, BitVec.toNat_ofNat, BitVec.toNat_ofNat, Nat.mod_eq_of_lt (show n < 2 ^ 64 by omega), Nat.shiftLeft_eq]
theorem q64_or {a b k : Nat} (hb : b < 2 ^ k) : zQ64 (a * 2 ^ k) ||| zQ64 b = zQ64 (a * 2 ^ k + b) := by
  apply Int64.toBitVec_inj.1
  rw [Int64.toBitVec_or, q64_bv, q64_bv, q64_bv, ← BitVec.ofNat_or]
  congr 1
  rw [← Nat.shiftLeft_eq, Nat.shiftLeft_add_eq_or_of_lt hb]
theorem q64_lit (n : Nat) : (no_index (OfNat.ofNat n) : Int64) = zQ64 n := Eq.trans rfl rfl
theorem q64_toInt {n : Nat} (hn : n < 9223372036854775808) : (zQ64 n).toInt = (n : Int) := Int64.toInt_ofNat_of_lt hn
theorem q64_cmp {n : Nat} (hn : n < 9223372036854775808) : lg_cmp (zQ64 n) (-1) = zN 1 := by
  unfold lg_cmp
  rw [if_pos]
  · rfl
  · show (-1 : Int64) < zQ64 n
    rw [Int64.lt_iff_toInt_lt, q64_toInt hn]
    have : (-1 : Int64).toInt = -1 := by decide
    omega
theorem q64_cmp0 : lg_cmp (-1) (-1) = zN 0 := by decide
